set_option maxRecDepth 20000 in
theorem ggX3_worstLeakage_X3_fails : GoodIn wsX3_worstLeakage wsX3_fails := goodIn_r _ [37, 38, 39, 40, 41, 42, 43, 44, 45, 46, 47] (by decide +kernel) (by decide +kernel)
set_option maxRecDepth 20000 in
theorem gX3_worstLeakage_X3_fails : GoodIn wsX3_worstLeakage (wsV RX3 44 RX3 yX3_fails wsX3_fails) := goodIn_app (goodIn_of _ (by decide +kernel)) ggX3_worstLeakage_X3_fails
theorem dX3_worstLeakage_0 : decode cX3_worstLeakage 0 = .ok (.aload_n 0, 1) := by decide +kernel
theorem dX3_worstLeakage_1 : decode cX3_worstLeakage 1 = .ok (.iload_n 1, 1) := by decide +kernel
theorem dX3_worstLeakage_2 : decode cX3_worstLeakage 2 = .ok (.invokevirtual 99, 3) := by decide +kernel
theorem dX3_worstLeakage_5 : decode cX3_worstLeakage 5 = .ok (.ifCond .eq 15, 3) := by decide +kernel
theorem dX3_worstLeakage_8 : decode cX3_worstLeakage 8 = .ok (.aload_n 0, 1) := by decide +kernel
theorem dX3_worstLeakage_9 : decode cX3_worstLeakage 9 = .ok (.aload_n 0, 1) := by decide +kernel
theorem dX3_worstLeakage_10 : decode cX3_worstLeakage 10 = .ok (.iload_n 1, 1) := by decide +kernel
theorem dX3_worstLeakage_11 : decode cX3_worstLeakage 11 = .ok (.invokevirtual 102, 3) := by decide +kernel
theorem dX3_worstLeakage_14 : decode cX3_worstLeakage 14 = .ok (.invokevirtual 96, 3) := by decide +kernel
theorem dX3_worstLeakage_17 : decode cX3_worstLeakage 17 = .ok (.goto 9, 3) := by decide +kernel
theorem dX3_worstLeakage_20 : decode cX3_worstLeakage 20 = .ok (.aload_n 0, 1) := by decide +kernel
theorem dX3_worstLeakage_21 : decode cX3_worstLeakage 21 = .ok (.bipush (-2), 2) := by decide +kernel
theorem dX3_worstLeakage_23 : decode cX3_worstLeakage 23 = .ok (.invokevirtual 44, 3) := by decide +kernel
theorem dX3_worstLeakage_26 : decode cX3_worstLeakage 26 = .ok (.ireturn, 1) := by decide +kernel
set_option maxRecDepth 20000 in
theorem ggX3_worstSet_X3_isSize : GoodIn wsX3_worstSet wsX3_isSize := goodIn_r _ [5, 6, 7, 8, 4, 9, 39, 40, 41, 42, 43, 44, 45, 46, 47] (by decide +kernel) (by decide +kernel)
set_option maxRecDepth 20000 in
theorem gX3_worstSet_X3_isSize : GoodIn wsX3_worstSet (wsV RX3 99 RX3 yX3_isSize wsX3_isSize) := goodIn_app (goodIn_of _ (by decide +kernel)) ggX3_worstSet_X3_isSize
set_option maxRecDepth 20000 in
theorem ggX3_worstSet_X3_worstOf : GoodIn wsX3_worstSet wsX3_worstOf := goodIn_r _ [13, 14, 15, 16, 4, 17, 6, 18, 19, 20, 21, 22, 23, 24, 25, 26, 27, 28, 29, 30, 31, 32, 33, 39, 40, 41, 42, 43, 44, 45, 46, 47] (by decide +kernel) (by decide +kernel)
set_option maxRecDepth 20000 in
theorem gX3_worstSet_X3_worstOf : GoodIn wsX3_worstSet (wsV RX3 102 RX3 yX3_worstOf wsX3_worstOf) := goodIn_app (goodIn_of _ (by decide +kernel)) ggX3_worstSet_X3_worstOf
set_option maxRecDepth 20000 in
theorem ggX3_worstSet_X3_fails : GoodIn wsX3_worstSet wsX3_fails := goodIn_r _ [37, 38, 39, 40, 41, 42, 43, 44, 45, 46, 47] (by decide +kernel) (by decide +kernel)
set_option maxRecDepth 20000 in
theorem gX3_worstSet_X3_fails : GoodIn wsX3_worstSet (wsV RX3 44 RX3 yX3_fails wsX3_fails) := goodIn_app (goodIn_of _ (by decide +kernel)) ggX3_worstSet_X3_fails
theorem dX3_worstSet_0 : decode cX3_worstSet 0 = .ok (.aload_n 0, 1) := by decide +kernel
theorem dX3_worstSet_1 : decode cX3_worstSet 1 = .ok (.iload_n 1, 1) := by decide +kernel
theorem dX3_worstSet_2 : decode cX3_worstSet 2 = .ok (.invokevirtual 99, 3) := by decide +kernel
theorem dX3_worstSet_5 : decode cX3_worstSet 5 = .ok (.ifCond .eq 11, 3) := by decide +kernel
theorem dX3_worstSet_8 : decode cX3_worstSet 8 = .ok (.aload_n 0, 1) := by decide +kernel
theorem dX3_worstSet_9 : decode cX3_worstSet 9 = .ok (.iload_n 1, 1) := by decide +kernel
theorem dX3_worstSet_10 : decode cX3_worstSet 10 = .ok (.invokevirtual 102, 3) := by decide +kernel
theorem dX3_worstSet_13 : decode cX3_worstSet 13 = .ok (.goto 9, 3) := by decide +kernel
theorem dX3_worstSet_16 : decode cX3_worstSet 16 = .ok (.aload_n 0, 1) := by decide +kernel
theorem dX3_worstSet_17 : decode cX3_worstSet 17 = .ok (.bipush (-2), 2) := by decide +kernel
theorem dX3_worstSet_19 : decode cX3_worstSet 19 = .ok (.invokevirtual 44, 3) := by decide +kernel
theorem dX3_worstSet_22 : decode cX3_worstSet 22 = .ok (.ireturn, 1) := by decide +kernel
set_option maxRecDepth 20000 in
theorem ggX3_threshold_X3_worstOf : GoodIn wsX3_threshold wsX3_worstOf := goodIn_r _ [6, 7, 8, 9, 5, 10, 1, 11, 12, 13, 14, 15, 16, 17, 18, 19, 20, 21, 22, 23, 24, 25, 26, 27, 28, 29, 30, 31, 32, 33, 34, 35] (by decide +kernel) (by decide +kernel)
set_option maxRecDepth 20000 in
theorem gX3_threshold_X3_worstOf : GoodIn wsX3_threshold (wsV RX3 102 RX3 yX3_worstOf wsX3_worstOf) := goodIn_app (goodIn_of _ (by decide +kernel)) ggX3_threshold_X3_worstOf
set_option maxRecDepth 20000 in
theorem ggX3_threshold_X3_leakageOf : GoodIn wsX3_threshold wsX3_leakageOf := goodIn_r _ [17, 18, 19, 20, 5, 21, 7, 8, 9, 10, 1, 22, 23, 24, 25, 26, 27, 28, 29, 30, 31, 32, 33, 34, 35] (by decide +kernel) (by decide +kernel)
set_option maxRecDepth 20000 in
theorem gX3_threshold_X3_leakageOf : GoodIn wsX3_threshold (wsV RX3 96 RX3 yX3_leakageOf wsX3_leakageOf) := goodIn_app (goodIn_of _ (by decide +kernel)) ggX3_threshold_X3_leakageOf
theorem dX3_threshold_0 : decode cX3_threshold 0 = .ok (.iconst 0, 1) := by decide +kernel
theorem dX3_threshold_1 : decode cX3_threshold 1 = .ok (.istore_n 1, 1) := by decide +kernel
theorem dX3_threshold_2 : decode cX3_threshold 2 = .ok (.iload_n 1, 1) := by decide +kernel
theorem dX3_threshold_3 : decode cX3_threshold 3 = .ok (.aload_n 0, 1) := by decide +kernel
theorem dX3_threshold_4 : decode cX3_threshold 4 = .ok (.getfield 7, 3) := by decide +kernel
theorem dX3_threshold_7 : decode cX3_threshold 7 = .ok (.iconst 0, 1) := by decide +kernel
theorem dX3_threshold_8 : decode cX3_threshold 8 = .ok (.iaload, 1) := by decide +kernel
theorem dX3_threshold_9 : decode cX3_threshold 9 = .ok (.if_icmp .ge 23, 3) := by decide +kernel
theorem dX3_threshold_12 : decode cX3_threshold 12 = .ok (.aload_n 0, 1) := by decide +kernel
theorem dX3_threshold_13 : decode cX3_threshold 13 = .ok (.aload_n 0, 1) := by decide +kernel
theorem dX3_threshold_14 : decode cX3_threshold 14 = .ok (.iload_n 1, 1) := by decide +kernel
theorem dX3_threshold_15 : decode cX3_threshold 15 = .ok (.iconst 1, 1) := by decide +kernel
theorem dX3_threshold_16 : decode cX3_threshold 16 = .ok (.iadd, 1) := by decide +kernel
theorem dX3_threshold_17 : decode cX3_threshold 17 = .ok (.invokevirtual 102, 3) := by decide +kernel
theorem dX3_threshold_20 : decode cX3_threshold 20 = .ok (.invokevirtual 96, 3) := by decide +kernel
theorem dX3_threshold_23 : decode cX3_threshold 23 = .ok (.ifCond .ne 9, 3) := by decide +kernel
theorem dX3_threshold_26 : decode cX3_threshold 26 = .ok (.iinc 1 1, 3) := by decide +kernel
theorem dX3_threshold_29 : decode cX3_threshold 29 = .ok (.goto (-27), 3) := by decide +kernel
theorem dX3_threshold_32 : decode cX3_threshold 32 = .ok (.iload_n 1, 1) := by decide +kernel
theorem dX3_threshold_33 : decode cX3_threshold 33 = .ok (.ireturn, 1) := by decide +kernel
set_option maxRecDepth 20000 in
theorem ggX3_leastSize_X3_within : GoodIn wsX3_leastSize wsX3_within := goodIn_r _ [5] (by decide +kernel) (by decide +kernel)
set_option maxRecDepth 20000 in
theorem gX3_leastSize_X3_within : GoodIn wsX3_leastSize (va_wsS RX3 36 yX3_within wsX3_within) := goodIn_app (goodIn_of _ (by decide +kernel)) ggX3_leastSize_X3_within
set_option maxRecDepth 20000 in
theorem ggX3_leastSize_X3_fails : GoodIn wsX3_leastSize wsX3_fails := goodIn_r _ [9, 10, 35, 36, 37, 38, 39, 40, 41, 42, 43] (by decide +kernel) (by decide +kernel)
set_option maxRecDepth 20000 in
theorem gX3_leastSize_X3_fails : GoodIn wsX3_leastSize (wsV RX3 44 RX3 yX3_fails wsX3_fails) := goodIn_app (goodIn_of _ (by decide +kernel)) ggX3_leastSize_X3_fails
set_option maxRecDepth 20000 in
theorem ggX3_leastSize_X3_worstOf : GoodIn wsX3_leastSize wsX3_worstOf := goodIn_r _ [14, 15, 16, 17, 4, 18, 1, 19, 20, 21, 22, 23, 24, 25, 26, 27, 28, 29, 30, 31, 32, 33, 34, 35, 36, 37, 38, 39, 40, 41, 42, 43] (by decide +kernel) (by decide +kernel)
set_option maxRecDepth 20000 in
theorem gX3_leastSize_X3_worstOf : GoodIn wsX3_leastSize (wsV RX3 102 RX3 yX3_worstOf wsX3_worstOf) := goodIn_app (goodIn_of _ (by decide +kernel)) ggX3_leastSize_X3_worstOf
set_option maxRecDepth 20000 in
theorem ggX3_leastSize_X3_leakageOf : GoodIn wsX3_leastSize wsX3_leakageOf := goodIn_r _ [25, 26, 27, 28, 4, 29, 15, 16, 17, 18, 1, 30, 31, 32, 33, 34, 35, 36, 37, 38, 39, 40, 41, 42, 43] (by decide +kernel) (by decide +kernel)
set_option maxRecDepth 20000 in
theorem gX3_leastSize_X3_leakageOf : GoodIn wsX3_leastSize (wsV RX3 96 RX3 yX3_leakageOf wsX3_leakageOf) := goodIn_app (goodIn_of _ (by decide +kernel)) ggX3_leastSize_X3_leakageOf
theorem dX3_leastSize_0 : decode cX3_leastSize 0 = .ok (.iload_n 1, 1) := by decide +kernel
theorem dX3_leastSize_1 : decode cX3_leastSize 1 = .ok (.iconst 1, 1) := by decide +kernel
theorem dX3_leastSize_2 : decode cX3_leastSize 2 = .ok (.bipush 6, 2) := by decide +kernel
theorem dX3_leastSize_4 : decode cX3_leastSize 4 = .ok (.invokestatic 36, 3) := by decide +kernel
theorem dX3_leastSize_7 : decode cX3_leastSize 7 = .ok (.ifCond .ne 10, 3) := by decide +kernel
theorem dX3_leastSize_10 : decode cX3_leastSize 10 = .ok (.aload_n 0, 1) := by decide +kernel
theorem dX3_leastSize_11 : decode cX3_leastSize 11 = .ok (.bipush (-2), 2) := by decide +kernel
theorem dX3_leastSize_13 : decode cX3_leastSize 13 = .ok (.invokevirtual 44, 3) := by decide +kernel
theorem dX3_leastSize_16 : decode cX3_leastSize 16 = .ok (.ireturn, 1) := by decide +kernel
theorem dX3_leastSize_17 : decode cX3_leastSize 17 = .ok (.iconst 0, 1) := by decide +kernel
theorem dX3_leastSize_18 : decode cX3_leastSize 18 = .ok (.istore_n 2, 1) := by decide +kernel
theorem dX3_leastSize_19 : decode cX3_leastSize 19 = .ok (.iload_n 2, 1) := by decide +kernel
theorem dX3_leastSize_20 : decode cX3_leastSize 20 = .ok (.aload_n 0, 1) := by decide +kernel
theorem dX3_leastSize_21 : decode cX3_leastSize 21 = .ok (.getfield 7, 3) := by decide +kernel
theorem dX3_leastSize_24 : decode cX3_leastSize 24 = .ok (.iconst 0, 1) := by decide +kernel
theorem dX3_leastSize_25 : decode cX3_leastSize 25 = .ok (.iaload, 1) := by decide +kernel
theorem dX3_leastSize_26 : decode cX3_leastSize 26 = .ok (.if_icmp .gt 22, 3) := by decide +kernel
theorem dX3_leastSize_29 : decode cX3_leastSize 29 = .ok (.aload_n 0, 1) := by decide +kernel
theorem dX3_leastSize_30 : decode cX3_leastSize 30 = .ok (.aload_n 0, 1) := by decide +kernel
theorem dX3_leastSize_31 : decode cX3_leastSize 31 = .ok (.iload_n 2, 1) := by decide +kernel
theorem dX3_leastSize_32 : decode cX3_leastSize 32 = .ok (.invokevirtual 102, 3) := by decide +kernel
theorem dX3_leastSize_35 : decode cX3_leastSize 35 = .ok (.invokevirtual 96, 3) := by decide +kernel
theorem dX3_leastSize_38 : decode cX3_leastSize 38 = .ok (.iload_n 1, 1) := by decide +kernel
theorem dX3_leastSize_39 : decode cX3_leastSize 39 = .ok (.if_icmp .ge 9, 3) := by decide +kernel
theorem dX3_leastSize_42 : decode cX3_leastSize 42 = .ok (.iinc 2 1, 3) := by decide +kernel
theorem dX3_leastSize_45 : decode cX3_leastSize 45 = .ok (.goto (-26), 3) := by decide +kernel
theorem dX3_leastSize_48 : decode cX3_leastSize 48 = .ok (.iload_n 2, 1) := by decide +kernel
theorem dX3_leastSize_49 : decode cX3_leastSize 49 = .ok (.aload_n 0, 1) := by decide +kernel
theorem dX3_leastSize_50 : decode cX3_leastSize 50 = .ok (.getfield 7, 3) := by decide +kernel
theorem dX3_leastSize_53 : decode cX3_leastSize 53 = .ok (.iconst 0, 1) := by decide +kernel
theorem dX3_leastSize_54 : decode cX3_leastSize 54 = .ok (.iaload, 1) := by decide +kernel
theorem dX3_leastSize_55 : decode cX3_leastSize 55 = .ok (.if_icmp .le 7, 3) := by decide +kernel
theorem dX3_leastSize_58 : decode cX3_leastSize 58 = .ok (.iconst (-1), 1) := by decide +kernel
theorem dX3_leastSize_59 : decode cX3_leastSize 59 = .ok (.goto 4, 3) := by decide +kernel
theorem dX3_leastSize_62 : decode cX3_leastSize 62 = .ok (.iload_n 2, 1) := by decide +kernel
theorem dX3_leastSize_63 : decode cX3_leastSize 63 = .ok (.ireturn, 1) := by decide +kernel
set_option maxRecDepth 20000 in
theorem ggX3_isObservation_X3_isWord : GoodIn wsX3_isObservation wsX3_isWord := goodIn_r _ [5, 6, 7, 8, 4, 9, 10, 11, 12, 13, 14, 15, 16, 17, 18, 19, 20, 21, 22] (by decide +kernel) (by decide +kernel)
set_option maxRecDepth 20000 in
theorem gX3_isObservation_X3_isWord : GoodIn wsX3_isObservation (wsV RX3 51 RX3 yX3_isWord wsX3_isWord) := goodIn_app (goodIn_of _ (by decide +kernel)) ggX3_isObservation_X3_isWord
theorem dX3_isObservation_0 : decode cX3_isObservation 0 = .ok (.aload_n 0, 1) := by decide +kernel
theorem dX3_isObservation_1 : decode cX3_isObservation 1 = .ok (.iload_n 1, 1) := by decide +kernel
theorem dX3_isObservation_2 : decode cX3_isObservation 2 = .ok (.invokevirtual 51, 3) := by decide +kernel
theorem dX3_isObservation_5 : decode cX3_isObservation 5 = .ok (.ifCond .eq 23, 3) := by decide +kernel
theorem dX3_isObservation_8 : decode cX3_isObservation 8 = .ok (.aload_n 0, 1) := by decide +kernel
theorem dX3_isObservation_9 : decode cX3_isObservation 9 = .ok (.iload_n 2, 1) := by decide +kernel
theorem dX3_isObservation_10 : decode cX3_isObservation 10 = .ok (.invokevirtual 51, 3) := by decide +kernel
theorem dX3_isObservation_13 : decode cX3_isObservation 13 = .ok (.ifCond .eq 15, 3) := by decide +kernel
theorem dX3_isObservation_16 : decode cX3_isObservation 16 = .ok (.iload_n 2, 1) := by decide +kernel
theorem dX3_isObservation_17 : decode cX3_isObservation 17 = .ok (.iload_n 1, 1) := by decide +kernel
theorem dX3_isObservation_18 : decode cX3_isObservation 18 = .ok (.iconst (-1), 1) := by decide +kernel
theorem dX3_isObservation_19 : decode cX3_isObservation 19 = .ok (.ixor, 1) := by decide +kernel
theorem dX3_isObservation_20 : decode cX3_isObservation 20 = .ok (.iand, 1) := by decide +kernel
theorem dX3_isObservation_21 : decode cX3_isObservation 21 = .ok (.ifCond .ne 7, 3) := by decide +kernel
theorem dX3_isObservation_24 : decode cX3_isObservation 24 = .ok (.iconst 1, 1) := by decide +kernel
theorem dX3_isObservation_25 : decode cX3_isObservation 25 = .ok (.goto 4, 3) := by decide +kernel
theorem dX3_isObservation_28 : decode cX3_isObservation 28 = .ok (.iconst 0, 1) := by decide +kernel
theorem dX3_isObservation_29 : decode cX3_isObservation 29 = .ok (.ireturn, 1) := by decide +kernel
set_option maxRecDepth 20000 in
theorem ggX3_possibleMessages_X3_isObservation : GoodIn wsX3_possibleMessages wsX3_isObservation := goodIn_r _ [5, 6, 7, 8, 4, 9, 10, 11, 12, 13, 14, 15, 16, 17, 40, 41, 42, 43, 44, 45, 46, 47, 48] (by decide +kernel) (by decide +kernel)
set_option maxRecDepth 20000 in
theorem gX3_possibleMessages_X3_isObservation : GoodIn wsX3_possibleMessages (wsV RX3 105 RX3 yX3_isObservation wsX3_isObservation) := goodIn_app (goodIn_of _ (by decide +kernel)) ggX3_possibleMessages_X3_isObservation
set_option maxRecDepth 20000 in
theorem ggX3_possibleMessages_X3_meets : GoodIn wsX3_possibleMessages wsX3_meets := goodIn_r _ [21, 22, 23, 24, 25, 26, 4, 27, 10, 11, 12, 13, 14, 28, 29, 30, 31, 32, 33, 34, 40, 41, 42, 43, 44, 45, 46, 47, 48] (by decide +kernel) (by decide +kernel)
set_option maxRecDepth 20000 in
theorem gX3_possibleMessages_X3_meets : GoodIn wsX3_possibleMessages (wsV RX3 81 RX3 yX3_meets wsX3_meets) := goodIn_app (goodIn_of _ (by decide +kernel)) ggX3_possibleMessages_X3_meets
set_option maxRecDepth 20000 in
theorem ggX3_possibleMessages_X3_fails : GoodIn wsX3_possibleMessages wsX3_fails := goodIn_r _ [38, 39, 40, 41, 42, 43, 44, 45, 46, 47, 48] (by decide +kernel) (by decide +kernel)
set_option maxRecDepth 20000 in
theorem gX3_possibleMessages_X3_fails : GoodIn wsX3_possibleMessages (wsV RX3 44 RX3 yX3_fails wsX3_fails) := goodIn_app (goodIn_of _ (by decide +kernel)) ggX3_possibleMessages_X3_fails
theorem dX3_possibleMessages_0 : decode cX3_possibleMessages 0 = .ok (.aload_n 0, 1) := by decide +kernel
theorem dX3_possibleMessages_1 : decode cX3_possibleMessages 1 = .ok (.iload_n 1, 1) := by decide +kernel
theorem dX3_possibleMessages_2 : decode cX3_possibleMessages 2 = .ok (.iload_n 2, 1) := by decide +kernel
theorem dX3_possibleMessages_3 : decode cX3_possibleMessages 3 = .ok (.invokevirtual 105, 3) := by decide +kernel
theorem dX3_possibleMessages_6 : decode cX3_possibleMessages 6 = .ok (.ifCond .eq 12, 3) := by decide +kernel
theorem dX3_possibleMessages_9 : decode cX3_possibleMessages 9 = .ok (.aload_n 0, 1) := by decide +kernel
theorem dX3_possibleMessages_10 : decode cX3_possibleMessages 10 = .ok (.iload_n 1, 1) := by decide +kernel
theorem dX3_possibleMessages_11 : decode cX3_possibleMessages 11 = .ok (.iload_n 2, 1) := by decide +kernel
theorem dX3_possibleMessages_12 : decode cX3_possibleMessages 12 = .ok (.invokevirtual 81, 3) := by decide +kernel
theorem dX3_possibleMessages_15 : decode cX3_possibleMessages 15 = .ok (.goto 9, 3) := by decide +kernel
theorem dX3_possibleMessages_18 : decode cX3_possibleMessages 18 = .ok (.aload_n 0, 1) := by decide +kernel
theorem dX3_possibleMessages_19 : decode cX3_possibleMessages 19 = .ok (.bipush (-2), 2) := by decide +kernel
theorem dX3_possibleMessages_21 : decode cX3_possibleMessages 21 = .ok (.invokevirtual 44, 3) := by decide +kernel
theorem dX3_possibleMessages_24 : decode cX3_possibleMessages 24 = .ok (.ireturn, 1) := by decide +kernel
set_option maxRecDepth 20000 in
theorem ggX3_possibleMessage_X3_isObservation : GoodIn wsX3_possibleMessage wsX3_isObservation := goodIn_r _ [6, 7, 8, 9, 5, 10, 11, 12, 13, 14, 15, 16, 17, 18, 40, 41, 42, 43, 44, 45, 46, 47, 48] (by decide +kernel) (by decide +kernel)
set_option maxRecDepth 20000 in
theorem gX3_possibleMessage_X3_isObservation : GoodIn wsX3_possibleMessage (wsV RX3 105 RX3 yX3_isObservation wsX3_isObservation) := goodIn_app (goodIn_of _ (by decide +kernel)) ggX3_possibleMessage_X3_isObservation
set_option maxRecDepth 20000 in
theorem ggX3_possibleMessage_X3_fails : GoodIn wsX3_possibleMessage wsX3_fails := goodIn_r _ [22, 23, 40, 41, 42, 43, 44, 45, 46, 47, 48] (by decide +kernel) (by decide +kernel)
set_option maxRecDepth 20000 in
theorem gX3_possibleMessage_X3_fails : GoodIn wsX3_possibleMessage (wsV RX3 44 RX3 yX3_fails wsX3_fails) := goodIn_app (goodIn_of _ (by decide +kernel)) ggX3_possibleMessage_X3_fails
set_option maxRecDepth 20000 in
theorem ggX3_possibleMessage_X3_meets : GoodIn wsX3_possibleMessage wsX3_meets := goodIn_r _ [27, 1, 28, 29, 30, 31, 5, 32, 11, 12, 13, 14, 15, 33, 34, 35, 36, 37, 38, 39, 40, 41, 42, 43, 44, 45, 46, 47, 48] (by decide +kernel) (by decide +kernel)
set_option maxRecDepth 20000 in
theorem gX3_possibleMessage_X3_meets : GoodIn wsX3_possibleMessage (wsV RX3 81 RX3 yX3_meets wsX3_meets) := goodIn_app (goodIn_of _ (by decide +kernel)) ggX3_possibleMessage_X3_meets
theorem dX3_possibleMessage_0 : decode cX3_possibleMessage 0 = .ok (.aload_n 0, 1) := by decide +kernel
theorem dX3_possibleMessage_1 : decode cX3_possibleMessage 1 = .ok (.iload_n 1, 1) := by decide +kernel
theorem dX3_possibleMessage_2 : decode cX3_possibleMessage 2 = .ok (.iload_n 2, 1) := by decide +kernel
theorem dX3_possibleMessage_3 : decode cX3_possibleMessage 3 = .ok (.invokevirtual 105, 3) := by decide +kernel
theorem dX3_possibleMessage_6 : decode cX3_possibleMessage 6 = .ok (.ifCond .eq 7, 3) := by decide +kernel
theorem dX3_possibleMessage_9 : decode cX3_possibleMessage 9 = .ok (.iload_n 3, 1) := by decide +kernel
theorem dX3_possibleMessage_10 : decode cX3_possibleMessage 10 = .ok (.ifCond .ge 10, 3) := by decide +kernel
theorem dX3_possibleMessage_13 : decode cX3_possibleMessage 13 = .ok (.aload_n 0, 1) := by decide +kernel
theorem dX3_possibleMessage_14 : decode cX3_possibleMessage 14 = .ok (.bipush (-2), 2) := by decide +kernel
theorem dX3_possibleMessage_16 : decode cX3_possibleMessage 16 = .ok (.invokevirtual 44, 3) := by decide +kernel
theorem dX3_possibleMessage_19 : decode cX3_possibleMessage 19 = .ok (.ireturn, 1) := by decide +kernel
theorem dX3_possibleMessage_20 : decode cX3_possibleMessage 20 = .ok (.aload_n 0, 1) := by decide +kernel
theorem dX3_possibleMessage_21 : decode cX3_possibleMessage 21 = .ok (.iload_n 1, 1) := by decide +kernel
theorem dX3_possibleMessage_22 : decode cX3_possibleMessage 22 = .ok (.iload_n 2, 1) := by decide +kernel
theorem dX3_possibleMessage_23 : decode cX3_possibleMessage 23 = .ok (.invokevirtual 81, 3) := by decide +kernel
theorem dX3_possibleMessage_26 : decode cX3_possibleMessage 26 = .ok (.pop, 1) := by decide +kernel
theorem dX3_possibleMessage_27 : decode cX3_possibleMessage 27 = .ok (.iconst 0, 1) := by decide +kernel
theorem dX3_possibleMessage_28 : decode cX3_possibleMessage 28 = .ok (.istore 4, 2) := by decide +kernel
theorem dX3_possibleMessage_30 : decode cX3_possibleMessage 30 = .ok (.iconst 0, 1) := by decide +kernel
theorem dX3_possibleMessage_31 : decode cX3_possibleMessage 31 = .ok (.istore 5, 2) := by decide +kernel
theorem dX3_possibleMessage_33 : decode cX3_possibleMessage 33 = .ok (.iload 5, 2) := by decide +kernel
theorem dX3_possibleMessage_35 : decode cX3_possibleMessage 35 = .ok (.bipush 64, 2) := by decide +kernel
theorem dX3_possibleMessage_37 : decode cX3_possibleMessage 37 = .ok (.if_icmp .ge 31, 3) := by decide +kernel
theorem dX3_possibleMessage_40 : decode cX3_possibleMessage 40 = .ok (.aload_n 0, 1) := by decide +kernel
theorem dX3_possibleMessage_41 : decode cX3_possibleMessage 41 = .ok (.getfield 25, 3) := by decide +kernel
theorem dX3_possibleMessage_44 : decode cX3_possibleMessage 44 = .ok (.iload 5, 2) := by decide +kernel
theorem dX3_possibleMessage_46 : decode cX3_possibleMessage 46 = .ok (.baload, 1) := by decide +kernel
theorem dX3_possibleMessage_47 : decode cX3_possibleMessage 47 = .ok (.ifCond .eq 15, 3) := by decide +kernel
theorem dX3_possibleMessage_50 : decode cX3_possibleMessage 50 = .ok (.iload 4, 2) := by decide +kernel
theorem dX3_possibleMessage_52 : decode cX3_possibleMessage 52 = .ok (.iload_n 3, 1) := by decide +kernel
theorem dX3_possibleMessage_53 : decode cX3_possibleMessage 53 = .ok (.if_icmp .ne 6, 3) := by decide +kernel
theorem dX3_possibleMessage_56 : decode cX3_possibleMessage 56 = .ok (.iload 5, 2) := by decide +kernel
theorem dX3_possibleMessage_58 : decode cX3_possibleMessage 58 = .ok (.ireturn, 1) := by decide +kernel
theorem dX3_possibleMessage_59 : decode cX3_possibleMessage 59 = .ok (.iinc 4 1, 3) := by decide +kernel
theorem dX3_possibleMessage_62 : decode cX3_possibleMessage 62 = .ok (.iinc 5 1, 3) := by decide +kernel
theorem dX3_possibleMessage_65 : decode cX3_possibleMessage 65 = .ok (.goto (-32), 3) := by decide +kernel
theorem dX3_possibleMessage_68 : decode cX3_possibleMessage 68 = .ok (.aload_n 0, 1) := by decide +kernel
theorem dX3_possibleMessage_69 : decode cX3_possibleMessage 69 = .ok (.bipush (-3), 2) := by decide +kernel
theorem dX3_possibleMessage_71 : decode cX3_possibleMessage 71 = .ok (.invokevirtual 44, 3) := by decide +kernel
theorem dX3_possibleMessage_74 : decode cX3_possibleMessage 74 = .ok (.ireturn, 1) := by decide +kernel
set_option maxRecDepth 20000 in
theorem ggX3_isKnown_X3_words : GoodIn wsX3_isKnown wsX3_words := goodIn_r _ [7, 8, 12, 13, 14, 15, 16, 17, 18, 19, 20] (by decide +kernel) (by decide +kernel)
set_option maxRecDepth 20000 in
theorem gX3_isKnown_X3_words : GoodIn wsX3_isKnown (wsV RX3 32 RX3 yX3_words wsX3_words) := goodIn_app (goodIn_of _ (by decide +kernel)) ggX3_isKnown_X3_words
set_option maxRecDepth 20000 in
theorem ggX3_isKnown_X3_ones : GoodIn wsX3_isKnown wsX3_ones := goodIn_r _ [11] (by decide +kernel) (by decide +kernel)
set_option maxRecDepth 20000 in
theorem gX3_isKnown_X3_ones : GoodIn wsX3_isKnown (va_wsS RX3 69 yX3_ones wsX3_ones) := goodIn_app (goodIn_of _ (by decide +kernel)) ggX3_isKnown_X3_ones
theorem dX3_isKnown_0 : decode cX3_isKnown 0 = .ok (.iconst 0, 1) := by decide +kernel
theorem dX3_isKnown_1 : decode cX3_isKnown 1 = .ok (.istore_n 3, 1) := by decide +kernel
theorem dX3_isKnown_2 : decode cX3_isKnown 2 = .ok (.iload_n 3, 1) := by decide +kernel
theorem dX3_isKnown_3 : decode cX3_isKnown 3 = .ok (.aload_n 0, 1) := by decide +kernel
theorem dX3_isKnown_4 : decode cX3_isKnown 4 = .ok (.invokevirtual 32, 3) := by decide +kernel
theorem dX3_isKnown_7 : decode cX3_isKnown 7 = .ok (.if_icmp .ge 16, 3) := by decide +kernel
theorem dX3_isKnown_10 : decode cX3_isKnown 10 = .ok (.aload_n 0, 1) := by decide +kernel
theorem dX3_isKnown_11 : decode cX3_isKnown 11 = .ok (.getfield 29, 3) := by decide +kernel
theorem dX3_isKnown_14 : decode cX3_isKnown 14 = .ok (.iload_n 3, 1) := by decide +kernel
theorem dX3_isKnown_15 : decode cX3_isKnown 15 = .ok (.iconst (-1), 1) := by decide +kernel
theorem dX3_isKnown_16 : decode cX3_isKnown 16 = .ok (.iastore, 1) := by decide +kernel
theorem dX3_isKnown_17 : decode cX3_isKnown 17 = .ok (.iinc 3 1, 3) := by decide +kernel
theorem dX3_isKnown_20 : decode cX3_isKnown 20 = .ok (.goto (-18), 3) := by decide +kernel
theorem dX3_isKnown_23 : decode cX3_isKnown 23 = .ok (.iconst 0, 1) := by decide +kernel
theorem dX3_isKnown_24 : decode cX3_isKnown 24 = .ok (.istore_n 3, 1) := by decide +kernel
theorem dX3_isKnown_25 : decode cX3_isKnown 25 = .ok (.iload_n 3, 1) := by decide +kernel
theorem dX3_isKnown_26 : decode cX3_isKnown 26 = .ok (.aload_n 0, 1) := by decide +kernel
theorem dX3_isKnown_27 : decode cX3_isKnown 27 = .ok (.invokevirtual 32, 3) := by decide +kernel
theorem dX3_isKnown_30 : decode cX3_isKnown 30 = .ok (.if_icmp .ge 61, 3) := by decide +kernel
theorem dX3_isKnown_33 : decode cX3_isKnown 33 = .ok (.aload_n 0, 1) := by decide +kernel
theorem dX3_isKnown_34 : decode cX3_isKnown 34 = .ok (.getfield 22, 3) := by decide +kernel
theorem dX3_isKnown_37 : decode cX3_isKnown 37 = .ok (.iload_n 3, 1) := by decide +kernel
theorem dX3_isKnown_38 : decode cX3_isKnown 38 = .ok (.iaload, 1) := by decide +kernel
theorem dX3_isKnown_39 : decode cX3_isKnown 39 = .ok (.iconst (-1), 1) := by decide +kernel
theorem dX3_isKnown_40 : decode cX3_isKnown 40 = .ok (.if_icmp .eq 45, 3) := by decide +kernel
theorem dX3_isKnown_43 : decode cX3_isKnown 43 = .ok (.iload_n 2, 1) := by decide +kernel
theorem dX3_isKnown_44 : decode cX3_isKnown 44 = .ok (.aload_n 0, 1) := by decide +kernel
theorem dX3_isKnown_45 : decode cX3_isKnown 45 = .ok (.getfield 22, 3) := by decide +kernel
theorem dX3_isKnown_48 : decode cX3_isKnown 48 = .ok (.iload_n 3, 1) := by decide +kernel
theorem dX3_isKnown_49 : decode cX3_isKnown 49 = .ok (.iaload, 1) := by decide +kernel
theorem dX3_isKnown_50 : decode cX3_isKnown 50 = .ok (.iand, 1) := by decide +kernel
theorem dX3_isKnown_51 : decode cX3_isKnown 51 = .ok (.invokestatic 69, 3) := by decide +kernel
theorem dX3_isKnown_54 : decode cX3_isKnown 54 = .ok (.iconst 1, 1) := by decide +kernel
theorem dX3_isKnown_55 : decode cX3_isKnown 55 = .ok (.iand, 1) := by decide +kernel
theorem dX3_isKnown_56 : decode cX3_isKnown 56 = .ok (.istore 4, 2) := by decide +kernel
theorem dX3_isKnown_58 : decode cX3_isKnown 58 = .ok (.aload_n 0, 1) := by decide +kernel
theorem dX3_isKnown_59 : decode cX3_isKnown 59 = .ok (.getfield 29, 3) := by decide +kernel
theorem dX3_isKnown_62 : decode cX3_isKnown 62 = .ok (.iload_n 3, 1) := by decide +kernel
theorem dX3_isKnown_63 : decode cX3_isKnown 63 = .ok (.iload_n 1, 1) := by decide +kernel
theorem dX3_isKnown_64 : decode cX3_isKnown 64 = .ok (.iand, 1) := by decide +kernel
theorem dX3_isKnown_65 : decode cX3_isKnown 65 = .ok (.iaload, 1) := by decide +kernel
theorem dX3_isKnown_66 : decode cX3_isKnown 66 = .ok (.iconst 1, 1) := by decide +kernel
theorem dX3_isKnown_67 : decode cX3_isKnown 67 = .ok (.iload 4, 2) := by decide +kernel
theorem dX3_isKnown_69 : decode cX3_isKnown 69 = .ok (.isub, 1) := by decide +kernel
theorem dX3_isKnown_70 : decode cX3_isKnown 70 = .ok (.if_icmp .ne 5, 3) := by decide +kernel
theorem dX3_isKnown_73 : decode cX3_isKnown 73 = .ok (.iconst 0, 1) := by decide +kernel
theorem dX3_isKnown_74 : decode cX3_isKnown 74 = .ok (.ireturn, 1) := by decide +kernel
theorem dX3_isKnown_75 : decode cX3_isKnown 75 = .ok (.aload_n 0, 1) := by decide +kernel
theorem dX3_isKnown_76 : decode cX3_isKnown 76 = .ok (.getfield 29, 3) := by decide +kernel
theorem dX3_isKnown_79 : decode cX3_isKnown 79 = .ok (.iload_n 3, 1) := by decide +kernel
theorem dX3_isKnown_80 : decode cX3_isKnown 80 = .ok (.iload_n 1, 1) := by decide +kernel
theorem dX3_isKnown_81 : decode cX3_isKnown 81 = .ok (.iand, 1) := by decide +kernel
theorem dX3_isKnown_82 : decode cX3_isKnown 82 = .ok (.iload 4, 2) := by decide +kernel
theorem dX3_isKnown_84 : decode cX3_isKnown 84 = .ok (.iastore, 1) := by decide +kernel
theorem dX3_isKnown_85 : decode cX3_isKnown 85 = .ok (.iinc 3 1, 3) := by decide +kernel
theorem dX3_isKnown_88 : decode cX3_isKnown 88 = .ok (.goto (-63), 3) := by decide +kernel
theorem dX3_isKnown_91 : decode cX3_isKnown 91 = .ok (.iconst 1, 1) := by decide +kernel
theorem dX3_isKnown_92 : decode cX3_isKnown 92 = .ok (.ireturn, 1) := by decide +kernel
set_option maxRecDepth 20000 in
theorem ggX3_knownCombinations_X3_isWord : GoodIn wsX3_knownCombinations wsX3_isWord := goodIn_r _ [6, 7, 8, 9, 5, 10, 1, 11, 12, 13, 36, 37, 38, 39, 40, 41, 42, 43, 44] (by decide +kernel) (by decide +kernel)
set_option maxRecDepth 20000 in
theorem gX3_knownCombinations_X3_isWord : GoodIn wsX3_knownCombinations (wsV RX3 51 RX3 yX3_isWord wsX3_isWord) := goodIn_app (goodIn_of _ (by decide +kernel)) ggX3_knownCombinations_X3_isWord
set_option maxRecDepth 20000 in
theorem ggX3_knownCombinations_X3_fails : GoodIn wsX3_knownCombinations wsX3_fails := goodIn_r _ [17, 18, 36, 37, 38, 39, 40, 41, 42, 43, 44] (by decide +kernel) (by decide +kernel)
set_option maxRecDepth 20000 in
theorem gX3_knownCombinations_X3_fails : GoodIn wsX3_knownCombinations (wsV RX3 44 RX3 yX3_fails wsX3_fails) := goodIn_app (goodIn_of _ (by decide +kernel)) ggX3_knownCombinations_X3_fails
set_option maxRecDepth 20000 in
theorem ggX3_knownCombinations_X3_laysMessages : GoodIn wsX3_knownCombinations wsX3_laysMessages := goodIn_r _ [22, 23, 7, 8, 9, 5, 10, 1, 24, 25, 26, 27, 28, 29, 30, 36, 37, 38, 39, 40, 41, 42, 43, 44] (by decide +kernel) (by decide +kernel)
set_option maxRecDepth 20000 in
theorem gX3_knownCombinations_X3_laysMessages : GoodIn wsX3_knownCombinations (wsV RX3 75 RX3 yX3_laysMessages wsX3_laysMessages) := goodIn_app (goodIn_of _ (by decide +kernel)) ggX3_knownCombinations_X3_laysMessages
set_option maxRecDepth 20000 in
theorem ggX3_knownCombinations_X3_isKnown : GoodIn wsX3_knownCombinations wsX3_isKnown := goodIn_r _ [34, 35, 23, 7, 8, 9, 5, 10, 1, 28, 29, 30, 36, 37, 38, 39, 40, 41, 42, 43, 44] (by decide +kernel) (by decide +kernel)
set_option maxRecDepth 20000 in
theorem gX3_knownCombinations_X3_isKnown : GoodIn wsX3_knownCombinations (wsV RX3 109 RX3 yX3_isKnown wsX3_isKnown) := goodIn_app (goodIn_of _ (by decide +kernel)) ggX3_knownCombinations_X3_isKnown
theorem dX3_knownCombinations_0 : decode cX3_knownCombinations 0 = .ok (.aload_n 0, 1) := by decide +kernel
theorem dX3_knownCombinations_1 : decode cX3_knownCombinations 1 = .ok (.iload_n 1, 1) := by decide +kernel
theorem dX3_knownCombinations_2 : decode cX3_knownCombinations 2 = .ok (.invokevirtual 51, 3) := by decide +kernel
theorem dX3_knownCombinations_5 : decode cX3_knownCombinations 5 = .ok (.ifCond .ne 10, 3) := by decide +kernel
theorem dX3_knownCombinations_8 : decode cX3_knownCombinations 8 = .ok (.aload_n 0, 1) := by decide +kernel
theorem dX3_knownCombinations_9 : decode cX3_knownCombinations 9 = .ok (.bipush (-2), 2) := by decide +kernel
theorem dX3_knownCombinations_11 : decode cX3_knownCombinations 11 = .ok (.invokevirtual 44, 3) := by decide +kernel
theorem dX3_knownCombinations_14 : decode cX3_knownCombinations 14 = .ok (.ireturn, 1) := by decide +kernel
theorem dX3_knownCombinations_15 : decode cX3_knownCombinations 15 = .ok (.aload_n 0, 1) := by decide +kernel
theorem dX3_knownCombinations_16 : decode cX3_knownCombinations 16 = .ok (.invokevirtual 75, 3) := by decide +kernel
theorem dX3_knownCombinations_19 : decode cX3_knownCombinations 19 = .ok (.iconst 0, 1) := by decide +kernel
theorem dX3_knownCombinations_20 : decode cX3_knownCombinations 20 = .ok (.istore_n 2, 1) := by decide +kernel
theorem dX3_knownCombinations_21 : decode cX3_knownCombinations 21 = .ok (.iconst 0, 1) := by decide +kernel
theorem dX3_knownCombinations_22 : decode cX3_knownCombinations 22 = .ok (.istore_n 3, 1) := by decide +kernel
theorem dX3_knownCombinations_23 : decode cX3_knownCombinations 23 = .ok (.iload_n 3, 1) := by decide +kernel
theorem dX3_knownCombinations_24 : decode cX3_knownCombinations 24 = .ok (.aload_n 0, 1) := by decide +kernel
theorem dX3_knownCombinations_25 : decode cX3_knownCombinations 25 = .ok (.getfield 7, 3) := by decide +kernel
theorem dX3_knownCombinations_28 : decode cX3_knownCombinations 28 = .ok (.iconst 1, 1) := by decide +kernel
theorem dX3_knownCombinations_29 : decode cX3_knownCombinations 29 = .ok (.iaload, 1) := by decide +kernel
theorem dX3_knownCombinations_30 : decode cX3_knownCombinations 30 = .ok (.if_icmp .ge 23, 3) := by decide +kernel
theorem dX3_knownCombinations_33 : decode cX3_knownCombinations 33 = .ok (.iload_n 2, 1) := by decide +kernel
theorem dX3_knownCombinations_34 : decode cX3_knownCombinations 34 = .ok (.iconst 1, 1) := by decide +kernel
theorem dX3_knownCombinations_35 : decode cX3_knownCombinations 35 = .ok (.aload_n 0, 1) := by decide +kernel
theorem dX3_knownCombinations_36 : decode cX3_knownCombinations 36 = .ok (.getfield 7, 3) := by decide +kernel
theorem dX3_knownCombinations_39 : decode cX3_knownCombinations 39 = .ok (.bipush 8, 2) := by decide +kernel
theorem dX3_knownCombinations_41 : decode cX3_knownCombinations 41 = .ok (.iload_n 3, 1) := by decide +kernel
theorem dX3_knownCombinations_42 : decode cX3_knownCombinations 42 = .ok (.iadd, 1) := by decide +kernel
theorem dX3_knownCombinations_43 : decode cX3_knownCombinations 43 = .ok (.iaload, 1) := by decide +kernel
theorem dX3_knownCombinations_44 : decode cX3_knownCombinations 44 = .ok (.isub, 1) := by decide +kernel
theorem dX3_knownCombinations_45 : decode cX3_knownCombinations 45 = .ok (.iadd, 1) := by decide +kernel
theorem dX3_knownCombinations_46 : decode cX3_knownCombinations 46 = .ok (.istore_n 2, 1) := by decide +kernel
theorem dX3_knownCombinations_47 : decode cX3_knownCombinations 47 = .ok (.iinc 3 1, 3) := by decide +kernel
theorem dX3_knownCombinations_50 : decode cX3_knownCombinations 50 = .ok (.goto (-27), 3) := by decide +kernel
theorem dX3_knownCombinations_53 : decode cX3_knownCombinations 53 = .ok (.iconst 0, 1) := by decide +kernel
theorem dX3_knownCombinations_54 : decode cX3_knownCombinations 54 = .ok (.istore_n 3, 1) := by decide +kernel
theorem dX3_knownCombinations_55 : decode cX3_knownCombinations 55 = .ok (.iconst 1, 1) := by decide +kernel
theorem dX3_knownCombinations_56 : decode cX3_knownCombinations 56 = .ok (.istore 4, 2) := by decide +kernel
theorem dX3_knownCombinations_58 : decode cX3_knownCombinations 58 = .ok (.iload 4, 2) := by decide +kernel
theorem dX3_knownCombinations_60 : decode cX3_knownCombinations 60 = .ok (.iconst 1, 1) := by decide +kernel
theorem dX3_knownCombinations_61 : decode cX3_knownCombinations 61 = .ok (.iload_n 2, 1) := by decide +kernel
theorem dX3_knownCombinations_62 : decode cX3_knownCombinations 62 = .ok (.ishl, 1) := by decide +kernel
theorem dX3_knownCombinations_63 : decode cX3_knownCombinations 63 = .ok (.if_icmp .ge 27, 3) := by decide +kernel
theorem dX3_knownCombinations_66 : decode cX3_knownCombinations 66 = .ok (.iload_n 3, 1) := by decide +kernel
theorem dX3_knownCombinations_67 : decode cX3_knownCombinations 67 = .ok (.aload_n 0, 1) := by decide +kernel
theorem dX3_knownCombinations_68 : decode cX3_knownCombinations 68 = .ok (.iload_n 1, 1) := by decide +kernel
theorem dX3_knownCombinations_69 : decode cX3_knownCombinations 69 = .ok (.iload 4, 2) := by decide +kernel
theorem dX3_knownCombinations_71 : decode cX3_knownCombinations 71 = .ok (.invokevirtual 109, 3) := by decide +kernel
theorem dX3_knownCombinations_74 : decode cX3_knownCombinations 74 = .ok (.ifCond .eq 7, 3) := by decide +kernel
theorem dX3_knownCombinations_77 : decode cX3_knownCombinations 77 = .ok (.iconst 1, 1) := by decide +kernel
theorem dX3_knownCombinations_78 : decode cX3_knownCombinations 78 = .ok (.goto 4, 3) := by decide +kernel
theorem dX3_knownCombinations_81 : decode cX3_knownCombinations 81 = .ok (.iconst 0, 1) := by decide +kernel
theorem dX3_knownCombinations_82 : decode cX3_knownCombinations 82 = .ok (.iadd, 1) := by decide +kernel
theorem dX3_knownCombinations_83 : decode cX3_knownCombinations 83 = .ok (.istore_n 3, 1) := by decide +kernel
theorem dX3_knownCombinations_84 : decode cX3_knownCombinations 84 = .ok (.iinc 4 1, 3) := by decide +kernel
theorem dX3_knownCombinations_87 : decode cX3_knownCombinations 87 = .ok (.goto (-29), 3) := by decide +kernel
theorem dX3_knownCombinations_90 : decode cX3_knownCombinations 90 = .ok (.iload_n 3, 1) := by decide +kernel
theorem dX3_knownCombinations_91 : decode cX3_knownCombinations 91 = .ok (.ireturn, 1) := by decide +kernel
set_option maxRecDepth 20000 in
theorem ggX3_errorCount_X3_within : GoodIn wsX3_errorCount wsX3_within := goodIn_r _ [5] (by decide +kernel) (by decide +kernel)
set_option maxRecDepth 20000 in
theorem gX3_errorCount_X3_within : GoodIn wsX3_errorCount (va_wsS RX3 36 yX3_within wsX3_within) := goodIn_app (goodIn_of _ (by decide +kernel)) ggX3_errorCount_X3_within
set_option maxRecDepth 20000 in
theorem ggX3_errorCount_X3_fails : GoodIn wsX3_errorCount wsX3_fails := goodIn_r _ [9, 1, 10, 11, 12, 13, 14, 15, 16, 17, 18] (by decide +kernel) (by decide +kernel)
set_option maxRecDepth 20000 in
theorem gX3_errorCount_X3_fails : GoodIn wsX3_errorCount (wsV RX3 44 RX3 yX3_fails wsX3_fails) := goodIn_app (goodIn_of _ (by decide +kernel)) ggX3_errorCount_X3_fails
theorem dX3_errorCount_0 : decode cX3_errorCount 0 = .ok (.iload_n 1, 1) := by decide +kernel
theorem dX3_errorCount_1 : decode cX3_errorCount 1 = .ok (.bipush (-6), 2) := by decide +kernel
theorem dX3_errorCount_3 : decode cX3_errorCount 3 = .ok (.bipush (-2), 2) := by decide +kernel
theorem dX3_errorCount_5 : decode cX3_errorCount 5 = .ok (.invokestatic 36, 3) := by decide +kernel
theorem dX3_errorCount_8 : decode cX3_errorCount 8 = .ok (.ifCond .eq 15, 3) := by decide +kernel
theorem dX3_errorCount_11 : decode cX3_errorCount 11 = .ok (.aload_n 0, 1) := by decide +kernel
theorem dX3_errorCount_12 : decode cX3_errorCount 12 = .ok (.getfield 16, 3) := by decide +kernel
theorem dX3_errorCount_15 : decode cX3_errorCount 15 = .ok (.bipush (-2), 2) := by decide +kernel
theorem dX3_errorCount_17 : decode cX3_errorCount 17 = .ok (.iload_n 1, 1) := by decide +kernel
theorem dX3_errorCount_18 : decode cX3_errorCount 18 = .ok (.isub, 1) := by decide +kernel
theorem dX3_errorCount_19 : decode cX3_errorCount 19 = .ok (.iaload, 1) := by decide +kernel
theorem dX3_errorCount_20 : decode cX3_errorCount 20 = .ok (.goto 9, 3) := by decide +kernel
theorem dX3_errorCount_23 : decode cX3_errorCount 23 = .ok (.aload_n 0, 1) := by decide +kernel
theorem dX3_errorCount_24 : decode cX3_errorCount 24 = .ok (.bipush (-2), 2) := by decide +kernel
theorem dX3_errorCount_26 : decode cX3_errorCount 26 = .ok (.invokevirtual 44, 3) := by decide +kernel
theorem dX3_errorCount_29 : decode cX3_errorCount 29 = .ok (.ireturn, 1) := by decide +kernel
theorem dX3_mix_0 : decode cX3_mix 0 = .ok (.aload_n 0, 1) := by decide +kernel
theorem dX3_mix_1 : decode cX3_mix 1 = .ok (.ldc2_w 112, 3) := by decide +kernel
theorem dX3_mix_4 : decode cX3_mix 4 = .ok (.aload_n 0, 1) := by decide +kernel
theorem dX3_mix_5 : decode cX3_mix 5 = .ok (.getfield 114, 3) := by decide +kernel
theorem dX3_mix_8 : decode cX3_mix 8 = .ok (.lmul, 1) := by decide +kernel
theorem dX3_mix_9 : decode cX3_mix 9 = .ok (.iload_n 1, 1) := by decide +kernel
theorem dX3_mix_10 : decode cX3_mix 10 = .ok (.i2l, 1) := by decide +kernel
theorem dX3_mix_11 : decode cX3_mix 11 = .ok (.ladd, 1) := by decide +kernel
theorem dX3_mix_12 : decode cX3_mix 12 = .ok (.putfield 114, 3) := by decide +kernel
theorem dX3_mix_15 : decode cX3_mix 15 = .ok (.return_, 1) := by decide +kernel
set_option maxRecDepth 20000 in
theorem ggX3_digest_X3_mix : GoodIn wsX3_digest wsX3_mix := goodIn_r _ [10, 11, 2, 70, 71, 72, 73, 74, 75, 76, 77, 78] (by decide +kernel) (by decide +kernel)
set_option maxRecDepth 20000 in
theorem gX3_digest_X3_mix : GoodIn wsX3_digest (wsV RX3 120 RX3 yX3_mix wsX3_mix) := goodIn_app (goodIn_of _ (by decide +kernel)) ggX3_digest_X3_mix
set_option maxRecDepth 20000 in
theorem ggX3_digest_X3_words : GoodIn wsX3_digest wsX3_words := goodIn_r _ [15, 4, 70, 71, 72, 73, 74, 75, 76, 77, 78] (by decide +kernel) (by decide +kernel)
set_option maxRecDepth 20000 in
theorem gX3_digest_X3_words : GoodIn wsX3_digest (wsV RX3 32 RX3 yX3_words wsX3_words) := goodIn_app (goodIn_of _ (by decide +kernel)) ggX3_digest_X3_words
set_option maxRecDepth 20000 in
theorem ggX3_digest_X3_rankOf : GoodIn wsX3_digest wsX3_rankOf := goodIn_r _ [19, 4, 20, 70, 71, 72, 73, 74, 75, 76, 77, 78] (by decide +kernel) (by decide +kernel)
set_option maxRecDepth 20000 in
theorem gX3_digest_X3_rankOf : GoodIn wsX3_digest (wsV RX3 65 RX3 yX3_rankOf wsX3_rankOf) := goodIn_app (goodIn_of _ (by decide +kernel)) ggX3_digest_X3_rankOf
set_option maxRecDepth 20000 in
theorem ggX3_digest_X3_codewordMany : GoodIn wsX3_digest wsX3_codewordMany := goodIn_r _ [24, 25, 26, 27, 28, 9, 29, 12, 13, 14, 15, 4, 30, 31, 32, 33, 34, 35, 36, 70, 71, 72, 73, 74, 75, 76, 77, 78] (by decide +kernel) (by decide +kernel)
set_option maxRecDepth 20000 in
theorem gX3_digest_X3_codewordMany : GoodIn wsX3_digest (wsV RX3 78 RX3 yX3_codewordMany wsX3_codewordMany) := goodIn_app (goodIn_of _ (by decide +kernel)) ggX3_digest_X3_codewordMany
set_option maxRecDepth 20000 in
theorem ggX3_digest_X3_meets : GoodIn wsX3_digest wsX3_meets := goodIn_r _ [40, 41, 25, 26, 27, 28, 9, 29, 12, 13, 14, 15, 4, 30, 31, 32, 33, 34, 35, 36, 70, 71, 72, 73, 74, 75, 76, 77, 78] (by decide +kernel) (by decide +kernel)
set_option maxRecDepth 20000 in
theorem gX3_digest_X3_meets : GoodIn wsX3_digest (wsV RX3 81 RX3 yX3_meets wsX3_meets) := goodIn_app (goodIn_of _ (by decide +kernel)) ggX3_digest_X3_meets
set_option maxRecDepth 20000 in
theorem ggX3_digest_X3_threshold : GoodIn wsX3_digest wsX3_threshold := goodIn_r _ [45, 4, 46, 47, 48, 9, 49, 12, 13, 14, 15, 34, 35, 36, 50, 51, 52, 53, 54, 55, 56, 57, 16, 17, 18, 19, 20, 70, 71, 72, 73, 74, 75, 76, 77, 78] (by decide +kernel) (by decide +kernel)
set_option maxRecDepth 20000 in
theorem gX3_digest_X3_threshold : GoodIn wsX3_digest (wsV RX3 123 RX3 yX3_threshold wsX3_threshold) := goodIn_app (goodIn_of _ (by decide +kernel)) ggX3_digest_X3_threshold
set_option maxRecDepth 20000 in
theorem ggX3_digest_X3_weakness : GoodIn wsX3_digest wsX3_weakness := goodIn_r _ [61, 25, 26, 27, 28, 9, 29, 12, 13, 14, 15, 4, 30, 31, 32, 33, 34, 35, 36, 62, 63, 64, 65, 66, 67, 68, 69, 70, 71, 72, 73, 74, 75, 76, 77, 78] (by decide +kernel) (by decide +kernel)
set_option maxRecDepth 20000 in
theorem gX3_digest_X3_weakness : GoodIn wsX3_digest (wsV RX3 126 RX3 yX3_weakness wsX3_weakness) := goodIn_app (goodIn_of _ (by decide +kernel)) ggX3_digest_X3_weakness
set_option maxRecDepth 20000 in
theorem ggX3_digest_X3_worstOf : GoodIn wsX3_digest wsX3_worstOf := goodIn_r _ [49, 12, 13, 14, 9, 15, 4, 34, 35, 36, 50, 51, 52, 53, 54, 55, 56, 57, 16, 17, 18, 19, 20, 70, 71, 72, 73, 74, 75, 76, 77, 78] (by decide +kernel) (by decide +kernel)
set_option maxRecDepth 20000 in
theorem gX3_digest_X3_worstOf : GoodIn wsX3_digest (wsV RX3 102 RX3 yX3_worstOf wsX3_worstOf) := goodIn_app (goodIn_of _ (by decide +kernel)) ggX3_digest_X3_worstOf
set_option maxRecDepth 20000 in
theorem ggX3_digest_X3_leakageOf : GoodIn wsX3_digest wsX3_leakageOf := goodIn_r _ [53, 54, 55, 56, 9, 57, 12, 13, 14, 15, 4, 16, 17, 18, 19, 20, 70, 71, 72, 73, 74, 75, 76, 77, 78] (by decide +kernel) (by decide +kernel)
set_option maxRecDepth 20000 in
theorem gX3_digest_X3_leakageOf : GoodIn wsX3_digest (wsV RX3 96 RX3 yX3_leakageOf wsX3_leakageOf) := goodIn_app (goodIn_of _ (by decide +kernel)) ggX3_digest_X3_leakageOf
theorem dX3_digest_0 : decode cX3_digest 0 = .ok (.aload_n 0, 1) := by decide +kernel
theorem dX3_digest_1 : decode cX3_digest 1 = .ok (.ldc2_w 118, 3) := by decide +kernel
theorem dX3_digest_4 : decode cX3_digest 4 = .ok (.putfield 114, 3) := by decide +kernel
theorem dX3_digest_7 : decode cX3_digest 7 = .ok (.iconst 0, 1) := by decide +kernel
theorem dX3_digest_8 : decode cX3_digest 8 = .ok (.istore_n 1, 1) := by decide +kernel
theorem dX3_digest_9 : decode cX3_digest 9 = .ok (.iload_n 1, 1) := by decide +kernel
theorem dX3_digest_10 : decode cX3_digest 10 = .ok (.iconst 5, 1) := by decide +kernel
theorem dX3_digest_11 : decode cX3_digest 11 = .ok (.if_icmp .ge 19, 3) := by decide +kernel
theorem dX3_digest_14 : decode cX3_digest 14 = .ok (.aload_n 0, 1) := by decide +kernel
theorem dX3_digest_15 : decode cX3_digest 15 = .ok (.aload_n 0, 1) := by decide +kernel
theorem dX3_digest_16 : decode cX3_digest 16 = .ok (.getfield 16, 3) := by decide +kernel
theorem dX3_digest_19 : decode cX3_digest 19 = .ok (.iload_n 1, 1) := by decide +kernel
theorem dX3_digest_20 : decode cX3_digest 20 = .ok (.iaload, 1) := by decide +kernel
theorem dX3_digest_21 : decode cX3_digest 21 = .ok (.invokevirtual 120, 3) := by decide +kernel
theorem dX3_digest_24 : decode cX3_digest 24 = .ok (.iinc 1 1, 3) := by decide +kernel
theorem dX3_digest_27 : decode cX3_digest 27 = .ok (.goto (-18), 3) := by decide +kernel
theorem dX3_digest_30 : decode cX3_digest 30 = .ok (.aload_n 0, 1) := by decide +kernel
theorem dX3_digest_31 : decode cX3_digest 31 = .ok (.aload_n 0, 1) := by decide +kernel
theorem dX3_digest_32 : decode cX3_digest 32 = .ok (.getfield 7, 3) := by decide +kernel
theorem dX3_digest_35 : decode cX3_digest 35 = .ok (.iconst 0, 1) := by decide +kernel
theorem dX3_digest_36 : decode cX3_digest 36 = .ok (.iaload, 1) := by decide +kernel
theorem dX3_digest_37 : decode cX3_digest 37 = .ok (.invokevirtual 120, 3) := by decide +kernel
theorem dX3_digest_40 : decode cX3_digest 40 = .ok (.aload_n 0, 1) := by decide +kernel
theorem dX3_digest_41 : decode cX3_digest 41 = .ok (.aload_n 0, 1) := by decide +kernel
theorem dX3_digest_42 : decode cX3_digest 42 = .ok (.getfield 7, 3) := by decide +kernel
theorem dX3_digest_45 : decode cX3_digest 45 = .ok (.iconst 1, 1) := by decide +kernel
theorem dX3_digest_46 : decode cX3_digest 46 = .ok (.iaload, 1) := by decide +kernel
theorem dX3_digest_47 : decode cX3_digest 47 = .ok (.invokevirtual 120, 3) := by decide +kernel
theorem dX3_digest_50 : decode cX3_digest 50 = .ok (.iconst 0, 1) := by decide +kernel
theorem dX3_digest_51 : decode cX3_digest 51 = .ok (.istore_n 1, 1) := by decide +kernel
theorem dX3_digest_52 : decode cX3_digest 52 = .ok (.iload_n 1, 1) := by decide +kernel
theorem dX3_digest_53 : decode cX3_digest 53 = .ok (.aload_n 0, 1) := by decide +kernel
theorem dX3_digest_54 : decode cX3_digest 54 = .ok (.getfield 7, 3) := by decide +kernel
theorem dX3_digest_57 : decode cX3_digest 57 = .ok (.iconst 1, 1) := by decide +kernel
theorem dX3_digest_58 : decode cX3_digest 58 = .ok (.iaload, 1) := by decide +kernel
theorem dX3_digest_59 : decode cX3_digest 59 = .ok (.if_icmp .ge 34, 3) := by decide +kernel
theorem dX3_digest_62 : decode cX3_digest 62 = .ok (.aload_n 0, 1) := by decide +kernel
theorem dX3_digest_63 : decode cX3_digest 63 = .ok (.aload_n 0, 1) := by decide +kernel
theorem dX3_digest_64 : decode cX3_digest 64 = .ok (.getfield 7, 3) := by decide +kernel
theorem dX3_digest_67 : decode cX3_digest 67 = .ok (.iconst 2, 1) := by decide +kernel
theorem dX3_digest_68 : decode cX3_digest 68 = .ok (.iload_n 1, 1) := by decide +kernel
theorem dX3_digest_69 : decode cX3_digest 69 = .ok (.iadd, 1) := by decide +kernel
theorem dX3_digest_70 : decode cX3_digest 70 = .ok (.iaload, 1) := by decide +kernel
theorem dX3_digest_71 : decode cX3_digest 71 = .ok (.invokevirtual 120, 3) := by decide +kernel
theorem dX3_digest_74 : decode cX3_digest 74 = .ok (.aload_n 0, 1) := by decide +kernel
theorem dX3_digest_75 : decode cX3_digest 75 = .ok (.aload_n 0, 1) := by decide +kernel
theorem dX3_digest_76 : decode cX3_digest 76 = .ok (.getfield 7, 3) := by decide +kernel
theorem dX3_digest_79 : decode cX3_digest 79 = .ok (.bipush 8, 2) := by decide +kernel
theorem dX3_digest_81 : decode cX3_digest 81 = .ok (.iload_n 1, 1) := by decide +kernel
theorem dX3_digest_82 : decode cX3_digest 82 = .ok (.iadd, 1) := by decide +kernel
theorem dX3_digest_83 : decode cX3_digest 83 = .ok (.iaload, 1) := by decide +kernel
theorem dX3_digest_84 : decode cX3_digest 84 = .ok (.invokevirtual 120, 3) := by decide +kernel
theorem dX3_digest_87 : decode cX3_digest 87 = .ok (.iinc 1 1, 3) := by decide +kernel
theorem dX3_digest_90 : decode cX3_digest 90 = .ok (.goto (-38), 3) := by decide +kernel
theorem dX3_digest_93 : decode cX3_digest 93 = .ok (.iconst 0, 1) := by decide +kernel
theorem dX3_digest_94 : decode cX3_digest 94 = .ok (.istore_n 1, 1) := by decide +kernel
theorem dX3_digest_95 : decode cX3_digest 95 = .ok (.iload_n 1, 1) := by decide +kernel
theorem dX3_digest_96 : decode cX3_digest 96 = .ok (.iconst 3, 1) := by decide +kernel
theorem dX3_digest_97 : decode cX3_digest 97 = .ok (.if_icmp .ge 24, 3) := by decide +kernel
theorem dX3_digest_100 : decode cX3_digest 100 = .ok (.aload_n 0, 1) := by decide +kernel
theorem dX3_digest_101 : decode cX3_digest 101 = .ok (.aload_n 0, 1) := by decide +kernel
theorem dX3_digest_102 : decode cX3_digest 102 = .ok (.iload_n 1, 1) := by decide +kernel
theorem dX3_digest_103 : decode cX3_digest 103 = .ok (.aload_n 0, 1) := by decide +kernel
theorem dX3_digest_104 : decode cX3_digest 104 = .ok (.invokevirtual 32, 3) := by decide +kernel
theorem dX3_digest_107 : decode cX3_digest 107 = .ok (.iconst 1, 1) := by decide +kernel
theorem dX3_digest_108 : decode cX3_digest 108 = .ok (.isub, 1) := by decide +kernel
theorem dX3_digest_109 : decode cX3_digest 109 = .ok (.invokevirtual 65, 3) := by decide +kernel
theorem dX3_digest_112 : decode cX3_digest 112 = .ok (.invokevirtual 120, 3) := by decide +kernel
theorem dX3_digest_115 : decode cX3_digest 115 = .ok (.iinc 1 1, 3) := by decide +kernel
theorem dX3_digest_118 : decode cX3_digest 118 = .ok (.goto (-23), 3) := by decide +kernel
theorem dX3_digest_121 : decode cX3_digest 121 = .ok (.aload_n 0, 1) := by decide +kernel
theorem dX3_digest_122 : decode cX3_digest 122 = .ok (.aload_n 0, 1) := by decide +kernel
theorem dX3_digest_123 : decode cX3_digest 123 = .ok (.invokevirtual 78, 3) := by decide +kernel
theorem dX3_digest_126 : decode cX3_digest 126 = .ok (.invokevirtual 120, 3) := by decide +kernel
theorem dX3_digest_129 : decode cX3_digest 129 = .ok (.aload_n 0, 1) := by decide +kernel
theorem dX3_digest_130 : decode cX3_digest 130 = .ok (.aload_n 0, 1) := by decide +kernel
theorem dX3_digest_131 : decode cX3_digest 131 = .ok (.iconst 0, 1) := by decide +kernel
theorem dX3_digest_132 : decode cX3_digest 132 = .ok (.iconst 0, 1) := by decide +kernel
theorem dX3_digest_133 : decode cX3_digest 133 = .ok (.invokevirtual 81, 3) := by decide +kernel
theorem dX3_digest_136 : decode cX3_digest 136 = .ok (.invokevirtual 120, 3) := by decide +kernel
theorem dX3_digest_139 : decode cX3_digest 139 = .ok (.aload_n 0, 1) := by decide +kernel
theorem dX3_digest_140 : decode cX3_digest 140 = .ok (.aload_n 0, 1) := by decide +kernel
theorem dX3_digest_141 : decode cX3_digest 141 = .ok (.invokevirtual 123, 3) := by decide +kernel
theorem dX3_digest_144 : decode cX3_digest 144 = .ok (.invokevirtual 120, 3) := by decide +kernel
theorem dX3_digest_147 : decode cX3_digest 147 = .ok (.aload_n 0, 1) := by decide +kernel
theorem dX3_digest_148 : decode cX3_digest 148 = .ok (.aload_n 0, 1) := by decide +kernel
theorem dX3_digest_149 : decode cX3_digest 149 = .ok (.invokevirtual 126, 3) := by decide +kernel
theorem dX3_digest_152 : decode cX3_digest 152 = .ok (.invokevirtual 120, 3) := by decide +kernel
theorem dX3_digest_155 : decode cX3_digest 155 = .ok (.iconst 0, 1) := by decide +kernel
theorem dX3_digest_156 : decode cX3_digest 156 = .ok (.istore_n 1, 1) := by decide +kernel
theorem dX3_digest_157 : decode cX3_digest 157 = .ok (.iload_n 1, 1) := by decide +kernel
theorem dX3_digest_158 : decode cX3_digest 158 = .ok (.aload_n 0, 1) := by decide +kernel
theorem dX3_digest_159 : decode cX3_digest 159 = .ok (.getfield 7, 3) := by decide +kernel
theorem dX3_digest_162 : decode cX3_digest 162 = .ok (.iconst 0, 1) := by decide +kernel
theorem dX3_digest_163 : decode cX3_digest 163 = .ok (.iaload, 1) := by decide +kernel
theorem dX3_digest_164 : decode cX3_digest 164 = .ok (.if_icmp .gt 29, 3) := by decide +kernel
theorem dX3_digest_167 : decode cX3_digest 167 = .ok (.aload_n 0, 1) := by decide +kernel
theorem dX3_digest_168 : decode cX3_digest 168 = .ok (.iload_n 1, 1) := by decide +kernel
theorem dX3_digest_169 : decode cX3_digest 169 = .ok (.invokevirtual 102, 3) := by decide +kernel
theorem dX3_digest_172 : decode cX3_digest 172 = .ok (.istore_n 2, 1) := by decide +kernel
theorem dX3_digest_173 : decode cX3_digest 173 = .ok (.aload_n 0, 1) := by decide +kernel
theorem dX3_digest_174 : decode cX3_digest 174 = .ok (.aload_n 0, 1) := by decide +kernel
theorem dX3_digest_175 : decode cX3_digest 175 = .ok (.iload_n 2, 1) := by decide +kernel
theorem dX3_digest_176 : decode cX3_digest 176 = .ok (.invokevirtual 96, 3) := by decide +kernel
theorem dX3_digest_179 : decode cX3_digest 179 = .ok (.invokevirtual 120, 3) := by decide +kernel
theorem dX3_digest_182 : decode cX3_digest 182 = .ok (.aload_n 0, 1) := by decide +kernel
theorem dX3_digest_183 : decode cX3_digest 183 = .ok (.iload_n 2, 1) := by decide +kernel
theorem dX3_digest_184 : decode cX3_digest 184 = .ok (.invokevirtual 120, 3) := by decide +kernel
theorem dX3_digest_187 : decode cX3_digest 187 = .ok (.iinc 1 1, 3) := by decide +kernel
theorem dX3_digest_190 : decode cX3_digest 190 = .ok (.goto (-33), 3) := by decide +kernel
theorem dX3_digest_193 : decode cX3_digest 193 = .ok (.aload_n 0, 1) := by decide +kernel
theorem dX3_digest_194 : decode cX3_digest 194 = .ok (.aload_n 0, 1) := by decide +kernel
theorem dX3_digest_195 : decode cX3_digest 195 = .ok (.getfield 40, 3) := by decide +kernel
theorem dX3_digest_198 : decode cX3_digest 198 = .ok (.invokevirtual 120, 3) := by decide +kernel
theorem dX3_digest_201 : decode cX3_digest 201 = .ok (.aload_n 0, 1) := by decide +kernel
theorem dX3_digest_202 : decode cX3_digest 202 = .ok (.getfield 114, 3) := by decide +kernel
theorem dX3_digest_205 : decode cX3_digest 205 = .ok (.lreturn, 1) := by decide +kernel
theorem dJ6_bitCount_0f7a4_0 : decode cJ6_bitCount_0f7a4 0 = .ok (.iload_n 0, 1) := by decide +kernel
theorem dJ6_bitCount_0f7a4_1 : decode cJ6_bitCount_0f7a4 1 = .ok (.iload_n 0, 1) := by decide +kernel
theorem dJ6_bitCount_0f7a4_2 : decode cJ6_bitCount_0f7a4 2 = .ok (.iconst 1, 1) := by decide +kernel
theorem dJ6_bitCount_0f7a4_3 : decode cJ6_bitCount_0f7a4 3 = .ok (.iushr, 1) := by decide +kernel
theorem dJ6_bitCount_0f7a4_4 : decode cJ6_bitCount_0f7a4 4 = .ok (.ldc_w 265, 3) := by decide +kernel
theorem dJ6_bitCount_0f7a4_7 : decode cJ6_bitCount_0f7a4 7 = .ok (.iand, 1) := by decide +kernel
theorem dJ6_bitCount_0f7a4_8 : decode cJ6_bitCount_0f7a4 8 = .ok (.isub, 1) := by decide +kernel
theorem dJ6_bitCount_0f7a4_9 : decode cJ6_bitCount_0f7a4 9 = .ok (.istore_n 0, 1) := by decide +kernel
theorem dJ6_bitCount_0f7a4_10 : decode cJ6_bitCount_0f7a4 10 = .ok (.iload_n 0, 1) := by decide +kernel
theorem dJ6_bitCount_0f7a4_11 : decode cJ6_bitCount_0f7a4 11 = .ok (.ldc_w 266, 3) := by decide +kernel
theorem dJ6_bitCount_0f7a4_14 : decode cJ6_bitCount_0f7a4 14 = .ok (.iand, 1) := by decide +kernel
theorem dJ6_bitCount_0f7a4_15 : decode cJ6_bitCount_0f7a4 15 = .ok (.iload_n 0, 1) := by decide +kernel
theorem dJ6_bitCount_0f7a4_16 : decode cJ6_bitCount_0f7a4 16 = .ok (.iconst 2, 1) := by decide +kernel
theorem dJ6_bitCount_0f7a4_17 : decode cJ6_bitCount_0f7a4 17 = .ok (.iushr, 1) := by decide +kernel
theorem dJ6_bitCount_0f7a4_18 : decode cJ6_bitCount_0f7a4 18 = .ok (.ldc_w 266, 3) := by decide +kernel
theorem dJ6_bitCount_0f7a4_21 : decode cJ6_bitCount_0f7a4 21 = .ok (.iand, 1) := by decide +kernel
theorem dJ6_bitCount_0f7a4_22 : decode cJ6_bitCount_0f7a4 22 = .ok (.iadd, 1) := by decide +kernel
theorem dJ6_bitCount_0f7a4_23 : decode cJ6_bitCount_0f7a4 23 = .ok (.istore_n 0, 1) := by decide +kernel
theorem dJ6_bitCount_0f7a4_24 : decode cJ6_bitCount_0f7a4 24 = .ok (.iload_n 0, 1) := by decide +kernel
theorem dJ6_bitCount_0f7a4_25 : decode cJ6_bitCount_0f7a4 25 = .ok (.iload_n 0, 1) := by decide +kernel
theorem dJ6_bitCount_0f7a4_26 : decode cJ6_bitCount_0f7a4 26 = .ok (.iconst 4, 1) := by decide +kernel
theorem dJ6_bitCount_0f7a4_27 : decode cJ6_bitCount_0f7a4 27 = .ok (.iushr, 1) := by decide +kernel
theorem dJ6_bitCount_0f7a4_28 : decode cJ6_bitCount_0f7a4 28 = .ok (.iadd, 1) := by decide +kernel
theorem dJ6_bitCount_0f7a4_29 : decode cJ6_bitCount_0f7a4 29 = .ok (.ldc_w 267, 3) := by decide +kernel
theorem dJ6_bitCount_0f7a4_32 : decode cJ6_bitCount_0f7a4 32 = .ok (.iand, 1) := by decide +kernel
theorem dJ6_bitCount_0f7a4_33 : decode cJ6_bitCount_0f7a4 33 = .ok (.istore_n 0, 1) := by decide +kernel
theorem dJ6_bitCount_0f7a4_34 : decode cJ6_bitCount_0f7a4 34 = .ok (.iload_n 0, 1) := by decide +kernel
theorem dJ6_bitCount_0f7a4_35 : decode cJ6_bitCount_0f7a4 35 = .ok (.iload_n 0, 1) := by decide +kernel
theorem dJ6_bitCount_0f7a4_36 : decode cJ6_bitCount_0f7a4 36 = .ok (.bipush 8, 2) := by decide +kernel
theorem dJ6_bitCount_0f7a4_38 : decode cJ6_bitCount_0f7a4 38 = .ok (.iushr, 1) := by decide +kernel
theorem dJ6_bitCount_0f7a4_39 : decode cJ6_bitCount_0f7a4 39 = .ok (.iadd, 1) := by decide +kernel
theorem dJ6_bitCount_0f7a4_40 : decode cJ6_bitCount_0f7a4 40 = .ok (.istore_n 0, 1) := by decide +kernel
theorem dJ6_bitCount_0f7a4_41 : decode cJ6_bitCount_0f7a4 41 = .ok (.iload_n 0, 1) := by decide +kernel
theorem dJ6_bitCount_0f7a4_42 : decode cJ6_bitCount_0f7a4 42 = .ok (.iload_n 0, 1) := by decide +kernel
theorem dJ6_bitCount_0f7a4_43 : decode cJ6_bitCount_0f7a4 43 = .ok (.bipush 16, 2) := by decide +kernel
theorem dJ6_bitCount_0f7a4_45 : decode cJ6_bitCount_0f7a4 45 = .ok (.iushr, 1) := by decide +kernel
theorem dJ6_bitCount_0f7a4_46 : decode cJ6_bitCount_0f7a4 46 = .ok (.iadd, 1) := by decide +kernel
theorem dJ6_bitCount_0f7a4_47 : decode cJ6_bitCount_0f7a4 47 = .ok (.istore_n 0, 1) := by decide +kernel
theorem dJ6_bitCount_0f7a4_48 : decode cJ6_bitCount_0f7a4 48 = .ok (.iload_n 0, 1) := by decide +kernel
theorem dJ6_bitCount_0f7a4_49 : decode cJ6_bitCount_0f7a4 49 = .ok (.bipush 63, 2) := by decide +kernel
theorem dJ6_bitCount_0f7a4_51 : decode cJ6_bitCount_0f7a4 51 = .ok (.iand, 1) := by decide +kernel
theorem dJ6_bitCount_0f7a4_52 : decode cJ6_bitCount_0f7a4 52 = .ok (.ireturn, 1) := by decide +kernel
theorem dJ13_bitCount_95d88_0 : decode cJ13_bitCount_95d88 0 = .ok (.lload_n 0, 1) := by decide +kernel
theorem dJ13_bitCount_95d88_1 : decode cJ13_bitCount_95d88 1 = .ok (.lload_n 0, 1) := by decide +kernel
theorem dJ13_bitCount_95d88_2 : decode cJ13_bitCount_95d88 2 = .ok (.iconst 1, 1) := by decide +kernel
theorem dJ13_bitCount_95d88_3 : decode cJ13_bitCount_95d88 3 = .ok (.lushr, 1) := by decide +kernel
theorem dJ13_bitCount_95d88_4 : decode cJ13_bitCount_95d88 4 = .ok (.ldc2_w 314, 3) := by decide +kernel
theorem dJ13_bitCount_95d88_7 : decode cJ13_bitCount_95d88 7 = .ok (.land, 1) := by decide +kernel
theorem dJ13_bitCount_95d88_8 : decode cJ13_bitCount_95d88 8 = .ok (.lsub, 1) := by decide +kernel
theorem dJ13_bitCount_95d88_9 : decode cJ13_bitCount_95d88 9 = .ok (.lstore_n 0, 1) := by decide +kernel
theorem dJ13_bitCount_95d88_10 : decode cJ13_bitCount_95d88 10 = .ok (.lload_n 0, 1) := by decide +kernel
theorem dJ13_bitCount_95d88_11 : decode cJ13_bitCount_95d88 11 = .ok (.ldc2_w 316, 3) := by decide +kernel
theorem dJ13_bitCount_95d88_14 : decode cJ13_bitCount_95d88 14 = .ok (.land, 1) := by decide +kernel
theorem dJ13_bitCount_95d88_15 : decode cJ13_bitCount_95d88 15 = .ok (.lload_n 0, 1) := by decide +kernel
theorem dJ13_bitCount_95d88_16 : decode cJ13_bitCount_95d88 16 = .ok (.iconst 2, 1) := by decide +kernel
theorem dJ13_bitCount_95d88_17 : decode cJ13_bitCount_95d88 17 = .ok (.lushr, 1) := by decide +kernel
theorem dJ13_bitCount_95d88_18 : decode cJ13_bitCount_95d88 18 = .ok (.ldc2_w 316, 3) := by decide +kernel
theorem dJ13_bitCount_95d88_21 : decode cJ13_bitCount_95d88 21 = .ok (.land, 1) := by decide +kernel
theorem dJ13_bitCount_95d88_22 : decode cJ13_bitCount_95d88 22 = .ok (.ladd, 1) := by decide +kernel
theorem dJ13_bitCount_95d88_23 : decode cJ13_bitCount_95d88 23 = .ok (.lstore_n 0, 1) := by decide +kernel
theorem dJ13_bitCount_95d88_24 : decode cJ13_bitCount_95d88 24 = .ok (.lload_n 0, 1) := by decide +kernel
theorem dJ13_bitCount_95d88_25 : decode cJ13_bitCount_95d88 25 = .ok (.lload_n 0, 1) := by decide +kernel
theorem dJ13_bitCount_95d88_26 : decode cJ13_bitCount_95d88 26 = .ok (.iconst 4, 1) := by decide +kernel
theorem dJ13_bitCount_95d88_27 : decode cJ13_bitCount_95d88 27 = .ok (.lushr, 1) := by decide +kernel
theorem dJ13_bitCount_95d88_28 : decode cJ13_bitCount_95d88 28 = .ok (.ladd, 1) := by decide +kernel
theorem dJ13_bitCount_95d88_29 : decode cJ13_bitCount_95d88 29 = .ok (.ldc2_w 318, 3) := by decide +kernel
theorem dJ13_bitCount_95d88_32 : decode cJ13_bitCount_95d88 32 = .ok (.land, 1) := by decide +kernel
theorem dJ13_bitCount_95d88_33 : decode cJ13_bitCount_95d88 33 = .ok (.lstore_n 0, 1) := by decide +kernel
theorem dJ13_bitCount_95d88_34 : decode cJ13_bitCount_95d88 34 = .ok (.lload_n 0, 1) := by decide +kernel
theorem dJ13_bitCount_95d88_35 : decode cJ13_bitCount_95d88 35 = .ok (.lload_n 0, 1) := by decide +kernel
theorem dJ13_bitCount_95d88_36 : decode cJ13_bitCount_95d88 36 = .ok (.bipush 8, 2) := by decide +kernel
theorem dJ13_bitCount_95d88_38 : decode cJ13_bitCount_95d88 38 = .ok (.lushr, 1) := by decide +kernel
theorem dJ13_bitCount_95d88_39 : decode cJ13_bitCount_95d88 39 = .ok (.ladd, 1) := by decide +kernel
theorem dJ13_bitCount_95d88_40 : decode cJ13_bitCount_95d88 40 = .ok (.lstore_n 0, 1) := by decide +kernel
theorem dJ13_bitCount_95d88_41 : decode cJ13_bitCount_95d88 41 = .ok (.lload_n 0, 1) := by decide +kernel
theorem dJ13_bitCount_95d88_42 : decode cJ13_bitCount_95d88 42 = .ok (.lload_n 0, 1) := by decide +kernel
theorem dJ13_bitCount_95d88_43 : decode cJ13_bitCount_95d88 43 = .ok (.bipush 16, 2) := by decide +kernel
theorem dJ13_bitCount_95d88_45 : decode cJ13_bitCount_95d88 45 = .ok (.lushr, 1) := by decide +kernel
theorem dJ13_bitCount_95d88_46 : decode cJ13_bitCount_95d88 46 = .ok (.ladd, 1) := by decide +kernel
theorem dJ13_bitCount_95d88_47 : decode cJ13_bitCount_95d88 47 = .ok (.lstore_n 0, 1) := by decide +kernel
theorem dJ13_bitCount_95d88_48 : decode cJ13_bitCount_95d88 48 = .ok (.lload_n 0, 1) := by decide +kernel
theorem dJ13_bitCount_95d88_49 : decode cJ13_bitCount_95d88 49 = .ok (.lload_n 0, 1) := by decide +kernel
theorem dJ13_bitCount_95d88_50 : decode cJ13_bitCount_95d88 50 = .ok (.bipush 32, 2) := by decide +kernel
theorem dJ13_bitCount_95d88_52 : decode cJ13_bitCount_95d88 52 = .ok (.lushr, 1) := by decide +kernel
theorem dJ13_bitCount_95d88_53 : decode cJ13_bitCount_95d88 53 = .ok (.ladd, 1) := by decide +kernel
theorem dJ13_bitCount_95d88_54 : decode cJ13_bitCount_95d88 54 = .ok (.lstore_n 0, 1) := by decide +kernel
theorem dJ13_bitCount_95d88_55 : decode cJ13_bitCount_95d88 55 = .ok (.lload_n 0, 1) := by decide +kernel
theorem dJ13_bitCount_95d88_56 : decode cJ13_bitCount_95d88 56 = .ok (.l2i, 1) := by decide +kernel
theorem dJ13_bitCount_95d88_57 : decode cJ13_bitCount_95d88 57 = .ok (.bipush 127, 2) := by decide +kernel
theorem dJ13_bitCount_95d88_59 : decode cJ13_bitCount_95d88 59 = .ok (.iand, 1) := by decide +kernel
theorem dJ13_bitCount_95d88_60 : decode cJ13_bitCount_95d88 60 = .ok (.ireturn, 1) := by decide +kernel
theorem dJ9_min_7cf53_0 : decode cJ9_min_7cf53 0 = .ok (.iload_n 0, 1) := by decide +kernel
theorem dJ9_min_7cf53_1 : decode cJ9_min_7cf53 1 = .ok (.iload_n 1, 1) := by decide +kernel
theorem dJ9_min_7cf53_2 : decode cJ9_min_7cf53 2 = .ok (.if_icmp .gt 7, 3) := by decide +kernel
theorem dJ9_min_7cf53_5 : decode cJ9_min_7cf53 5 = .ok (.iload_n 0, 1) := by decide +kernel
theorem dJ9_min_7cf53_6 : decode cJ9_min_7cf53 6 = .ok (.goto 4, 3) := by decide +kernel
theorem dJ9_min_7cf53_9 : decode cJ9_min_7cf53 9 = .ok (.iload_n 1, 1) := by decide +kernel
theorem dJ9_min_7cf53_10 : decode cJ9_min_7cf53 10 = .ok (.ireturn, 1) := by decide +kernel
set_option maxRecDepth 20000 in
theorem ggL_law_X2_init : GoodIn wsL_law wsX2_init := goodIn_r _ [8, 9, 10, 11, 12, 13, 14, 15, 16, 17, 18, 19, 20, 21, 22, 23, 24, 25, 26, 27, 28, 29, 30, 31, 32, 33, 34, 35, 36, 504, 505, 506, 507, 490, 491, 492, 493, 494, 508, 509] (by decide +kernel) (by decide +kernel)
set_option maxRecDepth 20000 in
theorem gL_law_X2_init : GoodIn wsL_law (wsX2_init) := ggL_law_X2_init
set_option maxRecDepth 20000 in
theorem ggL_law_X3_init : GoodIn wsL_law wsX3_init := goodIn_r _ [39, 40, 10, 11, 18, 41, 42, 43, 44, 45, 30, 46, 47, 495, 496, 497, 498, 499, 500, 501, 502, 503] (by decide +kernel) (by decide +kernel)
set_option maxRecDepth 20000 in
theorem gL_law_X3_init : GoodIn wsL_law (wsX3_init) := ggL_law_X3_init
set_option maxRecDepth 20000 in
theorem ggL_law_X2_setLength : GoodIn wsL_law wsX2_setLength := goodIn_r _ [51, 15, 52, 53, 54, 2, 55, 19, 56, 57, 58, 59, 17, 16, 60, 61, 62, 63, 64, 14, 65, 66, 27, 28, 29, 31, 490, 491, 492, 493, 494, 504, 505, 506, 507] (by decide +kernel) (by decide +kernel)
set_option maxRecDepth 20000 in
theorem gL_law_X2_setLength : GoodIn wsL_law (wsV RL 13 RX2 yX2_setLength wsX2_setLength) := goodIn_app (goodIn_of _ (by decide +kernel)) ggL_law_X2_setLength
set_option maxRecDepth 20000 in
theorem ggL_law_X3_setLength : GoodIn wsL_law wsX3_setLength := goodIn_r _ [70, 41, 71, 72, 5, 73, 74, 75, 76, 77, 43, 78, 79, 80, 81, 82, 42, 495, 496, 497, 498, 499, 500, 501, 502, 503] (by decide +kernel) (by decide +kernel)
set_option maxRecDepth 20000 in
theorem gL_law_X3_setLength : GoodIn wsL_law (wsV RL 17 RX3 yX3_setLength wsX3_setLength) := goodIn_app (goodIn_of _ (by decide +kernel)) ggL_law_X3_setLength
set_option maxRecDepth 20000 in
theorem ggL_law_X2_addRow : GoodIn wsL_law wsX2_addRow := goodIn_r _ [86, 15, 87, 88, 89, 2, 90, 91, 92, 93, 94, 52, 53, 54, 55, 19, 56, 57, 58, 59, 17, 16, 60, 61, 62, 63, 64, 14, 65, 66, 27, 28, 29, 31, 95, 96, 97, 490, 491, 492, 493, 494, 504, 505, 506, 507] (by decide +kernel) (by decide +kernel)
set_option maxRecDepth 20000 in
theorem gL_law_X2_addRow : GoodIn wsL_law (wsV RL 18 RX2 yX2_addRow wsX2_addRow) := goodIn_app (goodIn_of _ (by decide +kernel)) ggL_law_X2_addRow
set_option maxRecDepth 20000 in
theorem ggL_law_X3_addRow : GoodIn wsL_law wsX3_addRow := goodIn_r _ [101, 41, 102, 103, 104, 5, 105, 106, 107, 108, 109, 71, 72, 73, 74, 75, 76, 77, 43, 78, 79, 80, 81, 82, 42, 495, 496, 497, 498, 499, 500, 501, 502, 503] (by decide +kernel) (by decide +kernel)
set_option maxRecDepth 20000 in
theorem gL_law_X3_addRow : GoodIn wsL_law (wsV RL 22 RX3 yX3_addRow wsX3_addRow) := goodIn_app (goodIn_of _ (by decide +kernel)) ggL_law_X3_addRow
set_option maxRecDepth 20000 in
theorem ggL_law_X2_removeRow : GoodIn wsL_law wsX2_removeRow := goodIn_r _ [113, 15, 114, 115, 116, 2, 117, 52, 53, 54, 55, 19, 56, 57, 58, 59, 17, 16, 60, 61, 62, 63, 64, 14, 65, 66, 27, 28, 29, 31, 95, 96, 97, 490, 491, 492, 493, 494, 504, 505, 506, 507] (by decide +kernel) (by decide +kernel)
set_option maxRecDepth 20000 in
theorem gL_law_X2_removeRow : GoodIn wsL_law (wsV RL 23 RX2 yX2_removeRow wsX2_removeRow) := goodIn_app (goodIn_of _ (by decide +kernel)) ggL_law_X2_removeRow
set_option maxRecDepth 20000 in
theorem ggL_law_X3_removeRow : GoodIn wsL_law wsX3_removeRow := goodIn_r _ [121, 41, 122, 123, 124, 5, 125, 71, 72, 73, 74, 75, 76, 77, 43, 78, 79, 80, 81, 82, 42, 126, 127, 128, 129, 495, 496, 497, 498, 499, 500, 501, 502, 503] (by decide +kernel) (by decide +kernel)
set_option maxRecDepth 20000 in
theorem gL_law_X3_removeRow : GoodIn wsL_law (wsV RL 26 RX3 yX3_removeRow wsX3_removeRow) := goodIn_app (goodIn_of _ (by decide +kernel)) ggL_law_X3_removeRow
set_option maxRecDepth 20000 in
theorem ggL_law_X2_removeDependentRows : GoodIn wsL_law wsX2_removeDependentRows := goodIn_r _ [133, 23, 15, 56, 57, 58, 2, 59, 17, 16, 60, 61, 62, 63, 64, 14, 65, 66, 27, 28, 29, 31, 134, 22, 135, 136, 36, 137, 138, 139, 35, 140, 141, 142, 143, 95, 96, 97, 490, 491, 492, 493, 494, 504, 505, 506, 507, 508, 509] (by decide +kernel) (by decide +kernel)
set_option maxRecDepth 20000 in
theorem gL_law_X2_removeDependentRows : GoodIn wsL_law (wsV RL 27 RX2 yX2_removeDependentRows wsX2_removeDependentRows) := goodIn_app (goodIn_of _ (by decide +kernel)) ggL_law_X2_removeDependentRows
set_option maxRecDepth 20000 in
theorem ggL_law_X3_removeDependentRows : GoodIn wsL_law wsX3_removeDependentRows := goodIn_r _ [147, 41, 78, 79, 80, 5, 81, 82, 42, 148, 149, 150, 151, 126, 127, 128, 129, 495, 496, 497, 498, 499, 500, 501, 502, 503] (by decide +kernel) (by decide +kernel)
set_option maxRecDepth 20000 in
theorem gL_law_X3_removeDependentRows : GoodIn wsL_law (wsV RL 31 RX3 yX3_removeDependentRows wsX3_removeDependentRows) := goodIn_app (goodIn_of _ (by decide +kernel)) ggL_law_X3_removeDependentRows
set_option maxRecDepth 20000 in
theorem ggL_law_X2_row : GoodIn wsL_law wsX2_row := goodIn_r _ [155, 15, 114, 115, 116, 2, 117, 52, 53, 54, 55, 19, 490, 491, 492, 493, 494, 504, 505, 506, 507] (by decide +kernel) (by decide +kernel)
set_option maxRecDepth 20000 in
theorem gL_law_X2_row : GoodIn wsL_law (wsV RL 32 RX2 yX2_row wsX2_row) := goodIn_app (goodIn_of _ (by decide +kernel)) ggL_law_X2_row
set_option maxRecDepth 20000 in
theorem ggL_law_X3_row : GoodIn wsL_law wsX3_row := goodIn_r _ [159, 41, 122, 123, 124, 5, 125, 71, 72, 73, 74, 75, 76, 77, 43, 495, 496, 497, 498, 499, 500, 501, 502, 503] (by decide +kernel) (by decide +kernel)
set_option maxRecDepth 20000 in
theorem gL_law_X3_row : GoodIn wsL_law (wsV RL 35 RX3 yX3_row wsX3_row) := goodIn_app (goodIn_of _ (by decide +kernel)) ggL_law_X3_row
set_option maxRecDepth 20000 in
theorem ggL_law_X2_isCheck : GoodIn wsL_law wsX2_isCheck := goodIn_r _ [163, 15, 114, 115, 116, 2, 117, 52, 53, 54, 55, 19, 490, 491, 492, 493, 494, 504, 505, 506, 507] (by decide +kernel) (by decide +kernel)
set_option maxRecDepth 20000 in
theorem gL_law_X2_isCheck : GoodIn wsL_law (wsV RL 36 RX2 yX2_isCheck wsX2_isCheck) := goodIn_app (goodIn_of _ (by decide +kernel)) ggL_law_X2_isCheck
set_option maxRecDepth 20000 in
theorem ggL_law_X3_isCheck : GoodIn wsL_law wsX3_isCheck := goodIn_r _ [167, 41, 122, 123, 124, 5, 125, 71, 72, 73, 74, 75, 76, 77, 43, 495, 496, 497, 498, 499, 500, 501, 502, 503] (by decide +kernel) (by decide +kernel)
set_option maxRecDepth 20000 in
theorem gL_law_X3_isCheck : GoodIn wsL_law (wsV RL 39 RX3 yX3_isCheck wsX3_isCheck) := goodIn_app (goodIn_of _ (by decide +kernel)) ggL_law_X3_isCheck
set_option maxRecDepth 20000 in
theorem ggL_law_X2_rank : GoodIn wsL_law wsX2_rank := goodIn_r _ [171, 52, 53, 54, 2, 55, 19, 172, 173, 174, 175, 23, 134, 22, 135, 136, 36, 91, 92, 93, 94, 15, 176, 177, 178, 179, 137, 138, 139, 35, 140, 141, 142, 143, 490, 491, 492, 493, 494, 508, 509, 504, 505, 506, 507] (by decide +kernel) (by decide +kernel)
set_option maxRecDepth 20000 in
theorem gL_law_X2_rank : GoodIn wsL_law (wsV RL 40 RX2 yX2_rank wsX2_rank) := goodIn_app (goodIn_of _ (by decide +kernel)) ggL_law_X2_rank
set_option maxRecDepth 20000 in
theorem ggL_law_X3_rank : GoodIn wsL_law wsX3_rank := goodIn_r _ [183, 71, 72, 5, 73, 106, 107, 108, 109, 41, 184, 185, 186, 187, 44, 74, 75, 76, 77, 43, 495, 496, 497, 498, 499, 500, 501, 502, 503] (by decide +kernel) (by decide +kernel)
set_option maxRecDepth 20000 in
theorem gL_law_X3_rank : GoodIn wsL_law (wsV RL 43 RX3 yX3_rank wsX3_rank) := goodIn_app (goodIn_of _ (by decide +kernel)) ggL_law_X3_rank
set_option maxRecDepth 20000 in
theorem ggL_law_X2_message : GoodIn wsL_law wsX2_message := goodIn_r _ [191, 87, 88, 89, 2, 90, 91, 92, 93, 94, 15, 52, 53, 54, 55, 19, 192, 193, 194, 195, 196, 197, 198, 199, 200, 201, 202, 490, 491, 492, 493, 494, 504, 505, 506, 507] (by decide +kernel) (by decide +kernel)
set_option maxRecDepth 20000 in
theorem gL_law_X2_message : GoodIn wsL_law (wsV RL 44 RX2 yX2_message wsX2_message) := goodIn_app (goodIn_of _ (by decide +kernel)) ggL_law_X2_message
set_option maxRecDepth 20000 in
theorem ggL_law_X3_message : GoodIn wsL_law wsX3_message := goodIn_r _ [206, 102, 103, 104, 5, 105, 106, 107, 108, 109, 41, 71, 72, 73, 207, 208, 209, 210, 211, 212, 213, 74, 75, 76, 77, 43, 495, 496, 497, 498, 499, 500, 501, 502, 503] (by decide +kernel) (by decide +kernel)
set_option maxRecDepth 20000 in
theorem gL_law_X3_message : GoodIn wsL_law (wsV RL 47 RX3 yX3_message wsX3_message) := goodIn_app (goodIn_of _ (by decide +kernel)) ggL_law_X3_message
set_option maxRecDepth 20000 in
theorem ggL_law_X2_checkValue : GoodIn wsL_law wsX2_checkValue := goodIn_r _ [217, 87, 88, 89, 2, 90, 91, 92, 93, 94, 15, 52, 53, 54, 55, 19, 192, 193, 194, 195, 196, 197, 198, 199, 200, 201, 202, 490, 491, 492, 493, 494, 504, 505, 506, 507] (by decide +kernel) (by decide +kernel)
set_option maxRecDepth 20000 in
theorem gL_law_X2_checkValue : GoodIn wsL_law (wsV RL 48 RX2 yX2_checkValue wsX2_checkValue) := goodIn_app (goodIn_of _ (by decide +kernel)) ggL_law_X2_checkValue
set_option maxRecDepth 20000 in
theorem ggL_law_X3_checkValue : GoodIn wsL_law wsX3_checkValue := goodIn_r _ [221, 102, 103, 104, 5, 105, 106, 107, 108, 109, 41, 71, 72, 73, 207, 208, 209, 210, 211, 212, 213, 74, 75, 76, 77, 43, 495, 496, 497, 498, 499, 500, 501, 502, 503] (by decide +kernel) (by decide +kernel)
set_option maxRecDepth 20000 in
theorem gL_law_X3_checkValue : GoodIn wsL_law (wsV RL 51 RX3 yX3_checkValue wsX3_checkValue) := goodIn_app (goodIn_of _ (by decide +kernel)) ggL_law_X3_checkValue
set_option maxRecDepth 20000 in
theorem ggL_law_X2_codewords : GoodIn wsL_law wsX2_codewords := goodIn_r _ [225, 15, 172, 173, 174, 2, 175, 23, 134, 22, 135, 136, 36, 91, 92, 93, 94, 176, 177, 178, 179, 137, 138, 139, 35, 140, 141, 142, 143, 490, 491, 492, 493, 494, 504, 505, 506, 507, 508, 509] (by decide +kernel) (by decide +kernel)
set_option maxRecDepth 20000 in
theorem gL_law_X2_codewords : GoodIn wsL_law (wsV RL 52 RX2 yX2_codewords wsX2_codewords) := goodIn_app (goodIn_of _ (by decide +kernel)) ggL_law_X2_codewords
set_option maxRecDepth 20000 in
theorem ggL_law_X3_codewords : GoodIn wsL_law wsX3_codewords := goodIn_r _ [229, 230, 231, 232, 5, 233, 45, 234, 235, 236, 237, 106, 107, 108, 109, 41, 207, 208, 209, 210, 211, 212, 213, 495, 496, 497, 498, 499, 500, 501, 502, 503] (by decide +kernel) (by decide +kernel)
set_option maxRecDepth 20000 in
theorem gL_law_X3_codewords : GoodIn wsL_law (wsV RL 55 RX3 yX3_codewords wsX3_codewords) := goodIn_app (goodIn_of _ (by decide +kernel)) ggL_law_X3_codewords
set_option maxRecDepth 20000 in
theorem ggL_law_X2_messages : GoodIn wsL_law wsX2_messages := goodIn_r _ [241, 91, 92, 93, 2, 94, 15, 242, 243, 244, 245, 23, 134, 22, 135, 136, 36, 176, 177, 178, 179, 137, 138, 139, 35, 140, 141, 142, 143, 490, 491, 492, 493, 494, 504, 505, 506, 507, 508, 509] (by decide +kernel) (by decide +kernel)
set_option maxRecDepth 20000 in
theorem gL_law_X2_messages : GoodIn wsL_law (wsV RL 56 RX2 yX2_messages wsX2_messages) := goodIn_app (goodIn_of _ (by decide +kernel)) ggL_law_X2_messages
set_option maxRecDepth 20000 in
theorem ggL_law_X3_messages : GoodIn wsL_law wsX3_messages := goodIn_r _ [249, 250, 251, 252, 5, 253, 46, 45, 234, 235, 236, 237, 106, 107, 108, 109, 41, 207, 208, 209, 210, 211, 212, 213, 495, 496, 497, 498, 499, 500, 501, 502, 503] (by decide +kernel) (by decide +kernel)
set_option maxRecDepth 20000 in
theorem gL_law_X3_messages : GoodIn wsL_law (wsV RL 59 RX3 yX3_messages wsX3_messages) := goodIn_app (goodIn_of _ (by decide +kernel)) ggL_law_X3_messages
set_option maxRecDepth 20000 in
theorem ggL_law_X2_choices : GoodIn wsL_law wsX2_choices := goodIn_r _ [257, 258, 259, 2, 260, 52, 53, 54, 55, 19, 91, 92, 93, 94, 15, 261, 262, 263, 264, 265, 266, 267, 268, 192, 193, 194, 195, 196, 197, 198, 199, 200, 201, 202, 490, 491, 492, 493, 494, 504, 505, 506, 507] (by decide +kernel) (by decide +kernel)
set_option maxRecDepth 20000 in
theorem gL_law_X2_choices : GoodIn wsL_law (wsV RL 60 RX2 yX2_choices wsX2_choices) := goodIn_app (goodIn_of _ (by decide +kernel)) ggL_law_X2_choices
set_option maxRecDepth 20000 in
theorem ggL_law_X3_choices : GoodIn wsL_law wsX3_choices := goodIn_r _ [272, 71, 72, 5, 73, 273, 274, 275, 276, 45, 234, 235, 236, 237, 106, 107, 108, 109, 41, 207, 208, 209, 210, 211, 212, 213, 74, 75, 76, 77, 43, 495, 496, 497, 498, 499, 500, 501, 502, 503] (by decide +kernel) (by decide +kernel)
set_option maxRecDepth 20000 in
theorem gL_law_X3_choices : GoodIn wsL_law (wsV RL 63 RX3 yX3_choices wsX3_choices) := goodIn_app (goodIn_of _ (by decide +kernel)) ggL_law_X3_choices
set_option maxRecDepth 20000 in
theorem ggL_law_X2_encode : GoodIn wsL_law wsX2_encode := goodIn_r _ [280, 258, 259, 2, 260, 52, 53, 54, 55, 19, 91, 92, 93, 94, 15, 261, 262, 263, 264, 265, 266, 267, 268, 192, 193, 194, 195, 196, 197, 198, 199, 200, 201, 202, 490, 491, 492, 493, 494, 504, 505, 506, 507] (by decide +kernel) (by decide +kernel)
set_option maxRecDepth 20000 in
theorem gL_law_X2_encode : GoodIn wsL_law (wsV RL 64 RX2 yX2_encode wsX2_encode) := goodIn_app (goodIn_of _ (by decide +kernel)) ggL_law_X2_encode
set_option maxRecDepth 20000 in
theorem ggL_law_X3_encode : GoodIn wsL_law wsX3_encode := goodIn_r _ [284, 45, 71, 72, 5, 73, 74, 75, 76, 77, 43, 234, 235, 236, 237, 106, 107, 108, 109, 41, 207, 208, 209, 210, 211, 212, 213, 495, 496, 497, 498, 499, 500, 501, 502, 503] (by decide +kernel) (by decide +kernel)
set_option maxRecDepth 20000 in
theorem gL_law_X3_encode : GoodIn wsL_law (wsV RL 67 RX3 yX3_encode wsX3_encode) := goodIn_app (goodIn_of _ (by decide +kernel)) ggL_law_X3_encode
set_option maxRecDepth 20000 in
theorem ggL_law_X2_decode : GoodIn wsL_law wsX2_decode := goodIn_r _ [288, 87, 88, 89, 2, 90, 91, 92, 93, 94, 15, 52, 53, 54, 55, 19, 289, 290, 291, 292, 196, 197, 198, 199, 200, 201, 202, 265, 266, 267, 268, 192, 193, 194, 195, 490, 491, 492, 493, 494, 504, 505, 506, 507] (by decide +kernel) (by decide +kernel)
set_option maxRecDepth 20000 in
theorem gL_law_X2_decode : GoodIn wsL_law (wsV RL 68 RX2 yX2_decode wsX2_decode) := goodIn_app (goodIn_of _ (by decide +kernel)) ggL_law_X2_decode
set_option maxRecDepth 20000 in
theorem ggL_law_X3_decode : GoodIn wsL_law wsX3_decode := goodIn_r _ [296, 102, 103, 104, 5, 105, 106, 107, 108, 109, 41, 71, 72, 73, 74, 75, 76, 77, 43, 234, 235, 236, 237, 45, 207, 208, 209, 210, 211, 212, 213, 297, 298, 299, 300, 301, 302, 303, 304, 495, 496, 497, 498, 499, 500, 501, 502, 503] (by decide +kernel) (by decide +kernel)
set_option maxRecDepth 20000 in
theorem gL_law_X3_decode : GoodIn wsL_law (wsV RL 71 RX3 yX3_decode wsX3_decode) := goodIn_app (goodIn_of _ (by decide +kernel)) ggL_law_X3_decode
set_option maxRecDepth 20000 in
theorem ggL_law_X2_distance : GoodIn wsL_law wsX2_distance := goodIn_r _ [308, 87, 88, 89, 2, 90, 91, 92, 93, 94, 15, 52, 53, 54, 55, 19, 289, 290, 291, 292, 196, 197, 198, 199, 200, 201, 202, 265, 266, 267, 268, 192, 193, 194, 195, 490, 491, 492, 493, 494, 504, 505, 506, 507] (by decide +kernel) (by decide +kernel)
set_option maxRecDepth 20000 in
theorem gL_law_X2_distance : GoodIn wsL_law (wsV RL 72 RX2 yX2_distance wsX2_distance) := goodIn_app (goodIn_of _ (by decide +kernel)) ggL_law_X2_distance
set_option maxRecDepth 20000 in
theorem ggL_law_X3_distance : GoodIn wsL_law wsX3_distance := goodIn_r _ [312, 102, 103, 104, 5, 105, 106, 107, 108, 109, 41, 71, 72, 73, 74, 75, 76, 77, 43, 234, 235, 236, 237, 45, 207, 208, 209, 210, 211, 212, 213, 301, 302, 303, 304, 495, 496, 497, 498, 499, 500, 501, 502, 503] (by decide +kernel) (by decide +kernel)
set_option maxRecDepth 20000 in
theorem gL_law_X3_distance : GoodIn wsL_law (wsV RL 75 RX3 yX3_distance wsX3_distance) := goodIn_app (goodIn_of _ (by decide +kernel)) ggL_law_X3_distance
set_option maxRecDepth 20000 in
theorem ggL_law_X2_weakness : GoodIn wsL_law wsX2_weakness := goodIn_r _ [316, 317, 318, 319, 2, 320, 91, 92, 93, 94, 15, 196, 197, 198, 199, 200, 201, 202, 265, 266, 267, 268, 192, 193, 194, 195, 490, 491, 492, 493, 494, 504, 505, 506, 507] (by decide +kernel) (by decide +kernel)
set_option maxRecDepth 20000 in
theorem gL_law_X2_weakness : GoodIn wsL_law (wsV RL 76 RX2 yX2_weakness wsX2_weakness) := goodIn_app (goodIn_of _ (by decide +kernel)) ggL_law_X2_weakness
set_option maxRecDepth 20000 in
theorem ggL_law_X3_weakness : GoodIn wsL_law wsX3_weakness := goodIn_r _ [324, 45, 234, 235, 236, 5, 237, 106, 107, 108, 109, 41, 207, 208, 209, 210, 211, 212, 213, 297, 298, 299, 300, 301, 302, 303, 304, 495, 496, 497, 498, 499, 500, 501, 502, 503] (by decide +kernel) (by decide +kernel)
set_option maxRecDepth 20000 in
theorem gL_law_X3_weakness : GoodIn wsL_law (wsV RL 79 RX3 yX3_weakness wsX3_weakness) := goodIn_app (goodIn_of _ (by decide +kernel)) ggL_law_X3_weakness
set_option maxRecDepth 20000 in
theorem ggL_law_X2_leakage : GoodIn wsL_law wsX2_leakage := goodIn_r _ [328, 87, 88, 89, 2, 90, 91, 92, 93, 94, 15, 52, 53, 54, 55, 19, 329, 330, 331, 332, 242, 243, 244, 245, 23, 134, 22, 135, 136, 36, 176, 177, 178, 179, 137, 138, 139, 35, 140, 141, 142, 143, 490, 491, 492, 493, 494, 504, 505, 506, 507, 508, 509] (by decide +kernel) (by decide +kernel)
set_option maxRecDepth 20000 in
theorem gL_law_X2_leakage : GoodIn wsL_law (wsV RL 80 RX2 yX2_leakage wsX2_leakage) := goodIn_app (goodIn_of _ (by decide +kernel)) ggL_law_X2_leakage
set_option maxRecDepth 20000 in
theorem ggL_law_X3_leakage : GoodIn wsL_law wsX3_leakage := goodIn_r _ [336, 102, 103, 104, 5, 105, 106, 107, 108, 109, 41, 71, 72, 73, 337, 338, 339, 340, 341, 342, 343, 344, 184, 185, 186, 187, 44, 74, 75, 76, 77, 43, 495, 496, 497, 498, 499, 500, 501, 502, 503] (by decide +kernel) (by decide +kernel)
set_option maxRecDepth 20000 in
theorem gL_law_X3_leakage : GoodIn wsL_law (wsV RL 83 RX3 yX3_leakage wsX3_leakage) := goodIn_app (goodIn_of _ (by decide +kernel)) ggL_law_X3_leakage
set_option maxRecDepth 20000 in
theorem ggL_law_X2_worstLeakage : GoodIn wsL_law wsX2_worstLeakage := goodIn_r _ [348, 349, 350, 351, 2, 352, 15, 52, 53, 54, 55, 19, 353, 354, 355, 356, 91, 92, 93, 94, 196, 197, 198, 199, 200, 201, 202, 242, 243, 244, 245, 23, 134, 22, 135, 136, 36, 176, 177, 178, 179, 137, 138, 139, 35, 140, 141, 142, 143, 329, 330, 331, 332, 490, 491, 492, 493, 494, 504, 505, 506, 507, 508, 509] (by decide +kernel) (by decide +kernel)
set_option maxRecDepth 20000 in
theorem gL_law_X2_worstLeakage : GoodIn wsL_law (wsV RL 84 RX2 yX2_worstLeakage wsX2_worstLeakage) := goodIn_app (goodIn_of _ (by decide +kernel)) ggL_law_X2_worstLeakage
set_option maxRecDepth 20000 in
theorem ggL_law_X3_worstLeakage : GoodIn wsL_law wsX3_worstLeakage := goodIn_r _ [360, 361, 362, 363, 5, 364, 41, 71, 72, 73, 365, 366, 367, 368, 106, 107, 108, 109, 211, 212, 213, 337, 338, 339, 340, 341, 342, 343, 344, 184, 185, 186, 187, 44, 74, 75, 76, 77, 43, 495, 496, 497, 498, 499, 500, 501, 502, 503] (by decide +kernel) (by decide +kernel)
set_option maxRecDepth 20000 in
theorem gL_law_X3_worstLeakage : GoodIn wsL_law (wsV RL 87 RX3 yX3_worstLeakage wsX3_worstLeakage) := goodIn_app (goodIn_of _ (by decide +kernel)) ggL_law_X3_worstLeakage
set_option maxRecDepth 20000 in
theorem ggL_law_X2_worstSet : GoodIn wsL_law wsX2_worstSet := goodIn_r _ [372, 349, 350, 351, 2, 352, 15, 52, 53, 54, 55, 19, 353, 354, 355, 356, 91, 92, 93, 94, 196, 197, 198, 199, 200, 201, 202, 242, 243, 244, 245, 23, 134, 22, 135, 136, 36, 176, 177, 178, 179, 137, 138, 139, 35, 140, 141, 142, 143, 490, 491, 492, 493, 494, 504, 505, 506, 507, 508, 509] (by decide +kernel) (by decide +kernel)
