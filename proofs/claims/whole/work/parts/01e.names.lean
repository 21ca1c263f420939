theorem dX3_rankOf_109 : decode cX3_rankOf 109 = .ok (.iload 6, 2) := by decide +kernel
theorem dX3_rankOf_111 : decode cX3_rankOf 111 = .ok (.aload_n 0, 1) := by decide +kernel
theorem dX3_rankOf_112 : decode cX3_rankOf 112 = .ok (.getfield 7, 3) := by decide +kernel
theorem dX3_rankOf_115 : decode cX3_rankOf 115 = .ok (.iconst 1, 1) := by decide +kernel
theorem dX3_rankOf_116 : decode cX3_rankOf 116 = .ok (.iaload, 1) := by decide +kernel
theorem dX3_rankOf_117 : decode cX3_rankOf 117 = .ok (.if_icmp .ge 43, 3) := by decide +kernel
theorem dX3_rankOf_120 : decode cX3_rankOf 120 = .ok (.aload_n 0, 1) := by decide +kernel
theorem dX3_rankOf_121 : decode cX3_rankOf 121 = .ok (.getfield 19, 3) := by decide +kernel
theorem dX3_rankOf_124 : decode cX3_rankOf 124 = .ok (.iload 6, 2) := by decide +kernel
theorem dX3_rankOf_126 : decode cX3_rankOf 126 = .ok (.dup2, 1) := by decide +kernel
theorem dX3_rankOf_127 : decode cX3_rankOf 127 = .ok (.iaload, 1) := by decide +kernel
theorem dX3_rankOf_128 : decode cX3_rankOf 128 = .ok (.aload_n 0, 1) := by decide +kernel
theorem dX3_rankOf_129 : decode cX3_rankOf 129 = .ok (.getfield 19, 3) := by decide +kernel
theorem dX3_rankOf_132 : decode cX3_rankOf 132 = .ok (.iload 6, 2) := by decide +kernel
theorem dX3_rankOf_134 : decode cX3_rankOf 134 = .ok (.iaload, 1) := by decide +kernel
theorem dX3_rankOf_135 : decode cX3_rankOf 135 = .ok (.iload 5, 2) := by decide +kernel
theorem dX3_rankOf_137 : decode cX3_rankOf 137 = .ok (.iand, 1) := by decide +kernel
theorem dX3_rankOf_138 : decode cX3_rankOf 138 = .ok (.ifCond .eq 13, 3) := by decide +kernel
theorem dX3_rankOf_141 : decode cX3_rankOf 141 = .ok (.aload_n 0, 1) := by decide +kernel
theorem dX3_rankOf_142 : decode cX3_rankOf 142 = .ok (.getfield 19, 3) := by decide +kernel
theorem dX3_rankOf_145 : decode cX3_rankOf 145 = .ok (.iload 4, 2) := by decide +kernel
theorem dX3_rankOf_147 : decode cX3_rankOf 147 = .ok (.iaload, 1) := by decide +kernel
theorem dX3_rankOf_148 : decode cX3_rankOf 148 = .ok (.goto 4, 3) := by decide +kernel
theorem dX3_rankOf_151 : decode cX3_rankOf 151 = .ok (.iconst 0, 1) := by decide +kernel
theorem dX3_rankOf_152 : decode cX3_rankOf 152 = .ok (.ixor, 1) := by decide +kernel
theorem dX3_rankOf_153 : decode cX3_rankOf 153 = .ok (.iastore, 1) := by decide +kernel
theorem dX3_rankOf_154 : decode cX3_rankOf 154 = .ok (.iinc 6 1, 3) := by decide +kernel
theorem dX3_rankOf_157 : decode cX3_rankOf 157 = .ok (.goto (-48), 3) := by decide +kernel
theorem dX3_rankOf_160 : decode cX3_rankOf 160 = .ok (.iinc 4 1, 3) := by decide +kernel
theorem dX3_rankOf_163 : decode cX3_rankOf 163 = .ok (.goto (-102), 3) := by decide +kernel
theorem dX3_rankOf_166 : decode cX3_rankOf 166 = .ok (.iload_n 3, 1) := by decide +kernel
theorem dX3_rankOf_167 : decode cX3_rankOf 167 = .ok (.ireturn, 1) := by decide +kernel
set_option maxRecDepth 20000 in
theorem ggX3_rank_X3_within : GoodIn wsX3_rank wsX3_within := goodIn_r _ [4] (by decide +kernel) (by decide +kernel)
set_option maxRecDepth 20000 in
theorem gX3_rank_X3_within : GoodIn wsX3_rank (va_wsS RX3 36 yX3_within wsX3_within) := goodIn_app (goodIn_of _ (by decide +kernel)) ggX3_rank_X3_within
set_option maxRecDepth 20000 in
theorem ggX3_rank_X3_words : GoodIn wsX3_rank wsX3_words := goodIn_r _ [8, 9, 20, 21, 22, 23, 24, 25, 26, 27, 28] (by decide +kernel) (by decide +kernel)
set_option maxRecDepth 20000 in
theorem gX3_rank_X3_words : GoodIn wsX3_rank (wsV RX3 32 RX3 yX3_words wsX3_words) := goodIn_app (goodIn_of _ (by decide +kernel)) ggX3_rank_X3_words
set_option maxRecDepth 20000 in
theorem ggX3_rank_X3_rankOf : GoodIn wsX3_rank wsX3_rankOf := goodIn_r _ [13, 9, 14, 20, 21, 22, 23, 24, 25, 26, 27, 28] (by decide +kernel) (by decide +kernel)
set_option maxRecDepth 20000 in
theorem gX3_rank_X3_rankOf : GoodIn wsX3_rank (wsV RX3 65 RX3 yX3_rankOf wsX3_rankOf) := goodIn_app (goodIn_of _ (by decide +kernel)) ggX3_rank_X3_rankOf
set_option maxRecDepth 20000 in
theorem ggX3_rank_X3_fails : GoodIn wsX3_rank wsX3_fails := goodIn_r _ [18, 19, 20, 21, 22, 23, 24, 25, 26, 27, 28] (by decide +kernel) (by decide +kernel)
set_option maxRecDepth 20000 in
theorem gX3_rank_X3_fails : GoodIn wsX3_rank (wsV RX3 44 RX3 yX3_fails wsX3_fails) := goodIn_app (goodIn_of _ (by decide +kernel)) ggX3_rank_X3_fails
theorem dX3_rank_0 : decode cX3_rank 0 = .ok (.iload_n 1, 1) := by decide +kernel
theorem dX3_rank_1 : decode cX3_rank 1 = .ok (.iconst 0, 1) := by decide +kernel
theorem dX3_rank_2 : decode cX3_rank 2 = .ok (.iconst 2, 1) := by decide +kernel
theorem dX3_rank_3 : decode cX3_rank 3 = .ok (.invokestatic 36, 3) := by decide +kernel
theorem dX3_rank_6 : decode cX3_rank 6 = .ok (.ifCond .eq 17, 3) := by decide +kernel
theorem dX3_rank_9 : decode cX3_rank 9 = .ok (.aload_n 0, 1) := by decide +kernel
theorem dX3_rank_10 : decode cX3_rank 10 = .ok (.iload_n 1, 1) := by decide +kernel
theorem dX3_rank_11 : decode cX3_rank 11 = .ok (.aload_n 0, 1) := by decide +kernel
theorem dX3_rank_12 : decode cX3_rank 12 = .ok (.invokevirtual 32, 3) := by decide +kernel
theorem dX3_rank_15 : decode cX3_rank 15 = .ok (.iconst 1, 1) := by decide +kernel
theorem dX3_rank_16 : decode cX3_rank 16 = .ok (.isub, 1) := by decide +kernel
theorem dX3_rank_17 : decode cX3_rank 17 = .ok (.invokevirtual 65, 3) := by decide +kernel
theorem dX3_rank_20 : decode cX3_rank 20 = .ok (.goto 9, 3) := by decide +kernel
theorem dX3_rank_23 : decode cX3_rank 23 = .ok (.aload_n 0, 1) := by decide +kernel
theorem dX3_rank_24 : decode cX3_rank 24 = .ok (.bipush (-2), 2) := by decide +kernel
theorem dX3_rank_26 : decode cX3_rank 26 = .ok (.invokevirtual 44, 3) := by decide +kernel
theorem dX3_rank_29 : decode cX3_rank 29 = .ok (.ireturn, 1) := by decide +kernel
set_option maxRecDepth 20000 in
theorem ggX3_syndrome_X3_ones : GoodIn wsX3_syndrome wsX3_ones := goodIn_r _ [5] (by decide +kernel) (by decide +kernel)
set_option maxRecDepth 20000 in
theorem gX3_syndrome_X3_ones : GoodIn wsX3_syndrome (va_wsS RX3 69 yX3_ones wsX3_ones) := goodIn_app (goodIn_of _ (by decide +kernel)) ggX3_syndrome_X3_ones
theorem dX3_syndrome_0 : decode cX3_syndrome 0 = .ok (.iconst 0, 1) := by decide +kernel
theorem dX3_syndrome_1 : decode cX3_syndrome 1 = .ok (.istore_n 3, 1) := by decide +kernel
theorem dX3_syndrome_2 : decode cX3_syndrome 2 = .ok (.iconst 0, 1) := by decide +kernel
theorem dX3_syndrome_3 : decode cX3_syndrome 3 = .ok (.istore 4, 2) := by decide +kernel
theorem dX3_syndrome_5 : decode cX3_syndrome 5 = .ok (.iconst 0, 1) := by decide +kernel
theorem dX3_syndrome_6 : decode cX3_syndrome 6 = .ok (.istore 5, 2) := by decide +kernel
theorem dX3_syndrome_8 : decode cX3_syndrome 8 = .ok (.iload 5, 2) := by decide +kernel
theorem dX3_syndrome_10 : decode cX3_syndrome 10 = .ok (.aload_n 0, 1) := by decide +kernel
theorem dX3_syndrome_11 : decode cX3_syndrome 11 = .ok (.getfield 7, 3) := by decide +kernel
theorem dX3_syndrome_14 : decode cX3_syndrome 14 = .ok (.iconst 1, 1) := by decide +kernel
theorem dX3_syndrome_15 : decode cX3_syndrome 15 = .ok (.iaload, 1) := by decide +kernel
theorem dX3_syndrome_16 : decode cX3_syndrome 16 = .ok (.if_icmp .ge 48, 3) := by decide +kernel
theorem dX3_syndrome_19 : decode cX3_syndrome 19 = .ok (.aload_n 0, 1) := by decide +kernel
theorem dX3_syndrome_20 : decode cX3_syndrome 20 = .ok (.getfield 7, 3) := by decide +kernel
theorem dX3_syndrome_23 : decode cX3_syndrome 23 = .ok (.bipush 8, 2) := by decide +kernel
theorem dX3_syndrome_25 : decode cX3_syndrome 25 = .ok (.iload 5, 2) := by decide +kernel
theorem dX3_syndrome_27 : decode cX3_syndrome 27 = .ok (.iadd, 1) := by decide +kernel
theorem dX3_syndrome_28 : decode cX3_syndrome 28 = .ok (.iaload, 1) := by decide +kernel
theorem dX3_syndrome_29 : decode cX3_syndrome 29 = .ok (.iload_n 2, 1) := by decide +kernel
theorem dX3_syndrome_30 : decode cX3_syndrome 30 = .ok (.if_icmp .ne 28, 3) := by decide +kernel
theorem dX3_syndrome_33 : decode cX3_syndrome 33 = .ok (.iload_n 3, 1) := by decide +kernel
theorem dX3_syndrome_34 : decode cX3_syndrome 34 = .ok (.aload_n 0, 1) := by decide +kernel
theorem dX3_syndrome_35 : decode cX3_syndrome 35 = .ok (.getfield 7, 3) := by decide +kernel
theorem dX3_syndrome_38 : decode cX3_syndrome 38 = .ok (.iconst 2, 1) := by decide +kernel
theorem dX3_syndrome_39 : decode cX3_syndrome 39 = .ok (.iload 5, 2) := by decide +kernel
theorem dX3_syndrome_41 : decode cX3_syndrome 41 = .ok (.iadd, 1) := by decide +kernel
theorem dX3_syndrome_42 : decode cX3_syndrome 42 = .ok (.iaload, 1) := by decide +kernel
theorem dX3_syndrome_43 : decode cX3_syndrome 43 = .ok (.iload_n 1, 1) := by decide +kernel
theorem dX3_syndrome_44 : decode cX3_syndrome 44 = .ok (.iand, 1) := by decide +kernel
theorem dX3_syndrome_45 : decode cX3_syndrome 45 = .ok (.invokestatic 69, 3) := by decide +kernel
theorem dX3_syndrome_48 : decode cX3_syndrome 48 = .ok (.iconst 1, 1) := by decide +kernel
theorem dX3_syndrome_49 : decode cX3_syndrome 49 = .ok (.iand, 1) := by decide +kernel
theorem dX3_syndrome_50 : decode cX3_syndrome 50 = .ok (.iload 4, 2) := by decide +kernel
theorem dX3_syndrome_52 : decode cX3_syndrome 52 = .ok (.ishl, 1) := by decide +kernel
theorem dX3_syndrome_53 : decode cX3_syndrome 53 = .ok (.ior, 1) := by decide +kernel
theorem dX3_syndrome_54 : decode cX3_syndrome 54 = .ok (.istore_n 3, 1) := by decide +kernel
theorem dX3_syndrome_55 : decode cX3_syndrome 55 = .ok (.iinc 4 1, 3) := by decide +kernel
theorem dX3_syndrome_58 : decode cX3_syndrome 58 = .ok (.iinc 5 1, 3) := by decide +kernel
theorem dX3_syndrome_61 : decode cX3_syndrome 61 = .ok (.goto (-53), 3) := by decide +kernel
theorem dX3_syndrome_64 : decode cX3_syndrome 64 = .ok (.iload_n 3, 1) := by decide +kernel
theorem dX3_syndrome_65 : decode cX3_syndrome 65 = .ok (.ireturn, 1) := by decide +kernel
set_option maxRecDepth 20000 in
theorem ggX3_message_X3_isWord : GoodIn wsX3_message wsX3_isWord := goodIn_r _ [5, 6, 7, 8, 4, 9, 10, 11, 12, 13, 26, 27, 28, 29, 30, 31, 32, 33, 34] (by decide +kernel) (by decide +kernel)
set_option maxRecDepth 20000 in
theorem gX3_message_X3_isWord : GoodIn wsX3_message (wsV RX3 51 RX3 yX3_isWord wsX3_isWord) := goodIn_app (goodIn_of _ (by decide +kernel)) ggX3_message_X3_isWord
set_option maxRecDepth 20000 in
theorem ggX3_message_X3_syndrome : GoodIn wsX3_message wsX3_syndrome := goodIn_r _ [17, 10, 18, 19, 4, 20, 26, 27, 28, 29, 30, 31, 32, 33, 34] (by decide +kernel) (by decide +kernel)
set_option maxRecDepth 20000 in
theorem gX3_message_X3_syndrome : GoodIn wsX3_message (wsV RX3 72 RX3 yX3_syndrome wsX3_syndrome) := goodIn_app (goodIn_of _ (by decide +kernel)) ggX3_message_X3_syndrome
set_option maxRecDepth 20000 in
theorem ggX3_message_X3_fails : GoodIn wsX3_message wsX3_fails := goodIn_r _ [24, 25, 26, 27, 28, 29, 30, 31, 32, 33, 34] (by decide +kernel) (by decide +kernel)
set_option maxRecDepth 20000 in
theorem gX3_message_X3_fails : GoodIn wsX3_message (wsV RX3 44 RX3 yX3_fails wsX3_fails) := goodIn_app (goodIn_of _ (by decide +kernel)) ggX3_message_X3_fails
theorem dX3_message_0 : decode cX3_message 0 = .ok (.aload_n 0, 1) := by decide +kernel
theorem dX3_message_1 : decode cX3_message 1 = .ok (.iload_n 1, 1) := by decide +kernel
theorem dX3_message_2 : decode cX3_message 2 = .ok (.invokevirtual 51, 3) := by decide +kernel
theorem dX3_message_5 : decode cX3_message 5 = .ok (.ifCond .eq 12, 3) := by decide +kernel
theorem dX3_message_8 : decode cX3_message 8 = .ok (.aload_n 0, 1) := by decide +kernel
theorem dX3_message_9 : decode cX3_message 9 = .ok (.iload_n 1, 1) := by decide +kernel
theorem dX3_message_10 : decode cX3_message 10 = .ok (.iconst 0, 1) := by decide +kernel
theorem dX3_message_11 : decode cX3_message 11 = .ok (.invokevirtual 72, 3) := by decide +kernel
theorem dX3_message_14 : decode cX3_message 14 = .ok (.goto 9, 3) := by decide +kernel
theorem dX3_message_17 : decode cX3_message 17 = .ok (.aload_n 0, 1) := by decide +kernel
theorem dX3_message_18 : decode cX3_message 18 = .ok (.bipush (-2), 2) := by decide +kernel
theorem dX3_message_20 : decode cX3_message 20 = .ok (.invokevirtual 44, 3) := by decide +kernel
theorem dX3_message_23 : decode cX3_message 23 = .ok (.ireturn, 1) := by decide +kernel
set_option maxRecDepth 20000 in
theorem ggX3_checkValue_X3_isWord : GoodIn wsX3_checkValue wsX3_isWord := goodIn_r _ [5, 6, 7, 8, 4, 9, 10, 11, 12, 13, 26, 27, 28, 29, 30, 31, 32, 33, 34] (by decide +kernel) (by decide +kernel)
set_option maxRecDepth 20000 in
theorem gX3_checkValue_X3_isWord : GoodIn wsX3_checkValue (wsV RX3 51 RX3 yX3_isWord wsX3_isWord) := goodIn_app (goodIn_of _ (by decide +kernel)) ggX3_checkValue_X3_isWord
set_option maxRecDepth 20000 in
theorem ggX3_checkValue_X3_syndrome : GoodIn wsX3_checkValue wsX3_syndrome := goodIn_r _ [17, 10, 18, 19, 4, 20, 26, 27, 28, 29, 30, 31, 32, 33, 34] (by decide +kernel) (by decide +kernel)
set_option maxRecDepth 20000 in
theorem gX3_checkValue_X3_syndrome : GoodIn wsX3_checkValue (wsV RX3 72 RX3 yX3_syndrome wsX3_syndrome) := goodIn_app (goodIn_of _ (by decide +kernel)) ggX3_checkValue_X3_syndrome
set_option maxRecDepth 20000 in
theorem ggX3_checkValue_X3_fails : GoodIn wsX3_checkValue wsX3_fails := goodIn_r _ [24, 25, 26, 27, 28, 29, 30, 31, 32, 33, 34] (by decide +kernel) (by decide +kernel)
set_option maxRecDepth 20000 in
theorem gX3_checkValue_X3_fails : GoodIn wsX3_checkValue (wsV RX3 44 RX3 yX3_fails wsX3_fails) := goodIn_app (goodIn_of _ (by decide +kernel)) ggX3_checkValue_X3_fails
theorem dX3_checkValue_0 : decode cX3_checkValue 0 = .ok (.aload_n 0, 1) := by decide +kernel
theorem dX3_checkValue_1 : decode cX3_checkValue 1 = .ok (.iload_n 1, 1) := by decide +kernel
theorem dX3_checkValue_2 : decode cX3_checkValue 2 = .ok (.invokevirtual 51, 3) := by decide +kernel
theorem dX3_checkValue_5 : decode cX3_checkValue 5 = .ok (.ifCond .eq 12, 3) := by decide +kernel
theorem dX3_checkValue_8 : decode cX3_checkValue 8 = .ok (.aload_n 0, 1) := by decide +kernel
theorem dX3_checkValue_9 : decode cX3_checkValue 9 = .ok (.iload_n 1, 1) := by decide +kernel
theorem dX3_checkValue_10 : decode cX3_checkValue 10 = .ok (.iconst 1, 1) := by decide +kernel
theorem dX3_checkValue_11 : decode cX3_checkValue 11 = .ok (.invokevirtual 72, 3) := by decide +kernel
theorem dX3_checkValue_14 : decode cX3_checkValue 14 = .ok (.goto 9, 3) := by decide +kernel
theorem dX3_checkValue_17 : decode cX3_checkValue 17 = .ok (.aload_n 0, 1) := by decide +kernel
theorem dX3_checkValue_18 : decode cX3_checkValue 18 = .ok (.bipush (-2), 2) := by decide +kernel
theorem dX3_checkValue_20 : decode cX3_checkValue 20 = .ok (.invokevirtual 44, 3) := by decide +kernel
theorem dX3_checkValue_23 : decode cX3_checkValue 23 = .ok (.ireturn, 1) := by decide +kernel
set_option maxRecDepth 20000 in
theorem ggX3_laysMessages_X3_words : GoodIn wsX3_laysMessages wsX3_words := goodIn_r _ [6, 7, 15, 16, 17, 18, 19, 20, 21, 22, 23] (by decide +kernel) (by decide +kernel)
set_option maxRecDepth 20000 in
theorem gX3_laysMessages_X3_words : GoodIn wsX3_laysMessages (wsV RX3 32 RX3 yX3_words wsX3_words) := goodIn_app (goodIn_of _ (by decide +kernel)) ggX3_laysMessages_X3_words
set_option maxRecDepth 20000 in
theorem ggX3_laysMessages_X3_syndrome : GoodIn wsX3_laysMessages wsX3_syndrome := goodIn_r _ [11, 7, 12, 13, 5, 14, 15, 16, 17, 18, 19, 20, 21, 22, 23] (by decide +kernel) (by decide +kernel)
set_option maxRecDepth 20000 in
theorem gX3_laysMessages_X3_syndrome : GoodIn wsX3_laysMessages (wsV RX3 72 RX3 yX3_syndrome wsX3_syndrome) := goodIn_app (goodIn_of _ (by decide +kernel)) ggX3_laysMessages_X3_syndrome
theorem dX3_laysMessages_0 : decode cX3_laysMessages 0 = .ok (.iconst 0, 1) := by decide +kernel
theorem dX3_laysMessages_1 : decode cX3_laysMessages 1 = .ok (.istore_n 1, 1) := by decide +kernel
theorem dX3_laysMessages_2 : decode cX3_laysMessages 2 = .ok (.iload_n 1, 1) := by decide +kernel
theorem dX3_laysMessages_3 : decode cX3_laysMessages 3 = .ok (.aload_n 0, 1) := by decide +kernel
theorem dX3_laysMessages_4 : decode cX3_laysMessages 4 = .ok (.invokevirtual 32, 3) := by decide +kernel
theorem dX3_laysMessages_7 : decode cX3_laysMessages 7 = .ok (.if_icmp .ge 34, 3) := by decide +kernel
theorem dX3_laysMessages_10 : decode cX3_laysMessages 10 = .ok (.aload_n 0, 1) := by decide +kernel
theorem dX3_laysMessages_11 : decode cX3_laysMessages 11 = .ok (.getfield 22, 3) := by decide +kernel
theorem dX3_laysMessages_14 : decode cX3_laysMessages 14 = .ok (.iload_n 1, 1) := by decide +kernel
theorem dX3_laysMessages_15 : decode cX3_laysMessages 15 = .ok (.aload_n 0, 1) := by decide +kernel
theorem dX3_laysMessages_16 : decode cX3_laysMessages 16 = .ok (.iload_n 1, 1) := by decide +kernel
theorem dX3_laysMessages_17 : decode cX3_laysMessages 17 = .ok (.iconst 1, 1) := by decide +kernel
theorem dX3_laysMessages_18 : decode cX3_laysMessages 18 = .ok (.invokevirtual 72, 3) := by decide +kernel
theorem dX3_laysMessages_21 : decode cX3_laysMessages 21 = .ok (.ifCond .ne 12, 3) := by decide +kernel
theorem dX3_laysMessages_24 : decode cX3_laysMessages 24 = .ok (.aload_n 0, 1) := by decide +kernel
theorem dX3_laysMessages_25 : decode cX3_laysMessages 25 = .ok (.iload_n 1, 1) := by decide +kernel
theorem dX3_laysMessages_26 : decode cX3_laysMessages 26 = .ok (.iconst 0, 1) := by decide +kernel
theorem dX3_laysMessages_27 : decode cX3_laysMessages 27 = .ok (.invokevirtual 72, 3) := by decide +kernel
theorem dX3_laysMessages_30 : decode cX3_laysMessages 30 = .ok (.goto 4, 3) := by decide +kernel
theorem dX3_laysMessages_33 : decode cX3_laysMessages 33 = .ok (.iconst (-1), 1) := by decide +kernel
theorem dX3_laysMessages_34 : decode cX3_laysMessages 34 = .ok (.iastore, 1) := by decide +kernel
theorem dX3_laysMessages_35 : decode cX3_laysMessages 35 = .ok (.iinc 1 1, 3) := by decide +kernel
theorem dX3_laysMessages_38 : decode cX3_laysMessages 38 = .ok (.goto (-36), 3) := by decide +kernel
theorem dX3_laysMessages_41 : decode cX3_laysMessages 41 = .ok (.return_, 1) := by decide +kernel
set_option maxRecDepth 20000 in
theorem ggX3_meets_X3_laysMessages : GoodIn wsX3_meets wsX3_laysMessages := goodIn_r _ [7, 2, 8, 9, 10, 6, 11, 12, 13, 14, 15, 16, 17, 18, 19, 20, 21, 22, 23, 24, 25, 26, 27, 28] (by decide +kernel) (by decide +kernel)
set_option maxRecDepth 20000 in
theorem gX3_meets_X3_laysMessages : GoodIn wsX3_meets (wsV RX3 75 RX3 yX3_laysMessages wsX3_laysMessages) := goodIn_app (goodIn_of _ (by decide +kernel)) ggX3_meets_X3_laysMessages
set_option maxRecDepth 20000 in
theorem ggX3_meets_X3_words : GoodIn wsX3_meets wsX3_words := goodIn_r _ [11, 12, 20, 21, 22, 23, 24, 25, 26, 27, 28] (by decide +kernel) (by decide +kernel)
set_option maxRecDepth 20000 in
theorem gX3_meets_X3_words : GoodIn wsX3_meets (wsV RX3 32 RX3 yX3_words wsX3_words) := goodIn_app (goodIn_of _ (by decide +kernel)) ggX3_meets_X3_words
theorem dX3_meets_0 : decode cX3_meets 0 = .ok (.aload_n 0, 1) := by decide +kernel
theorem dX3_meets_1 : decode cX3_meets 1 = .ok (.invokevirtual 75, 3) := by decide +kernel
theorem dX3_meets_4 : decode cX3_meets 4 = .ok (.iconst 0, 1) := by decide +kernel
theorem dX3_meets_5 : decode cX3_meets 5 = .ok (.istore_n 3, 1) := by decide +kernel
theorem dX3_meets_6 : decode cX3_meets 6 = .ok (.iload_n 3, 1) := by decide +kernel
theorem dX3_meets_7 : decode cX3_meets 7 = .ok (.bipush 64, 2) := by decide +kernel
theorem dX3_meets_9 : decode cX3_meets 9 = .ok (.if_icmp .ge 16, 3) := by decide +kernel
theorem dX3_meets_12 : decode cX3_meets 12 = .ok (.aload_n 0, 1) := by decide +kernel
theorem dX3_meets_13 : decode cX3_meets 13 = .ok (.getfield 25, 3) := by decide +kernel
theorem dX3_meets_16 : decode cX3_meets 16 = .ok (.iload_n 3, 1) := by decide +kernel
theorem dX3_meets_17 : decode cX3_meets 17 = .ok (.iconst 0, 1) := by decide +kernel
theorem dX3_meets_18 : decode cX3_meets 18 = .ok (.bastore, 1) := by decide +kernel
theorem dX3_meets_19 : decode cX3_meets 19 = .ok (.iinc 3 1, 3) := by decide +kernel
theorem dX3_meets_22 : decode cX3_meets 22 = .ok (.goto (-16), 3) := by decide +kernel
theorem dX3_meets_25 : decode cX3_meets 25 = .ok (.iconst 0, 1) := by decide +kernel
theorem dX3_meets_26 : decode cX3_meets 26 = .ok (.istore_n 3, 1) := by decide +kernel
theorem dX3_meets_27 : decode cX3_meets 27 = .ok (.iconst 0, 1) := by decide +kernel
theorem dX3_meets_28 : decode cX3_meets 28 = .ok (.istore 4, 2) := by decide +kernel
theorem dX3_meets_30 : decode cX3_meets 30 = .ok (.iload 4, 2) := by decide +kernel
theorem dX3_meets_32 : decode cX3_meets 32 = .ok (.aload_n 0, 1) := by decide +kernel
theorem dX3_meets_33 : decode cX3_meets 33 = .ok (.invokevirtual 32, 3) := by decide +kernel
theorem dX3_meets_36 : decode cX3_meets 36 = .ok (.if_icmp .ge 59, 3) := by decide +kernel
theorem dX3_meets_39 : decode cX3_meets 39 = .ok (.aload_n 0, 1) := by decide +kernel
theorem dX3_meets_40 : decode cX3_meets 40 = .ok (.getfield 22, 3) := by decide +kernel
theorem dX3_meets_43 : decode cX3_meets 43 = .ok (.iload 4, 2) := by decide +kernel
theorem dX3_meets_45 : decode cX3_meets 45 = .ok (.iaload, 1) := by decide +kernel
theorem dX3_meets_46 : decode cX3_meets 46 = .ok (.iconst (-1), 1) := by decide +kernel
theorem dX3_meets_47 : decode cX3_meets 47 = .ok (.if_icmp .eq 42, 3) := by decide +kernel
theorem dX3_meets_50 : decode cX3_meets 50 = .ok (.iload 4, 2) := by decide +kernel
theorem dX3_meets_52 : decode cX3_meets 52 = .ok (.iload_n 1, 1) := by decide +kernel
theorem dX3_meets_53 : decode cX3_meets 53 = .ok (.iand, 1) := by decide +kernel
theorem dX3_meets_54 : decode cX3_meets 54 = .ok (.iload_n 2, 1) := by decide +kernel
theorem dX3_meets_55 : decode cX3_meets 55 = .ok (.if_icmp .ne 34, 3) := by decide +kernel
theorem dX3_meets_58 : decode cX3_meets 58 = .ok (.aload_n 0, 1) := by decide +kernel
theorem dX3_meets_59 : decode cX3_meets 59 = .ok (.getfield 25, 3) := by decide +kernel
theorem dX3_meets_62 : decode cX3_meets 62 = .ok (.aload_n 0, 1) := by decide +kernel
theorem dX3_meets_63 : decode cX3_meets 63 = .ok (.getfield 22, 3) := by decide +kernel
theorem dX3_meets_66 : decode cX3_meets 66 = .ok (.iload 4, 2) := by decide +kernel
theorem dX3_meets_68 : decode cX3_meets 68 = .ok (.iaload, 1) := by decide +kernel
theorem dX3_meets_69 : decode cX3_meets 69 = .ok (.baload, 1) := by decide +kernel
theorem dX3_meets_70 : decode cX3_meets 70 = .ok (.ifCond .ne 19, 3) := by decide +kernel
theorem dX3_meets_73 : decode cX3_meets 73 = .ok (.aload_n 0, 1) := by decide +kernel
theorem dX3_meets_74 : decode cX3_meets 74 = .ok (.getfield 25, 3) := by decide +kernel
theorem dX3_meets_77 : decode cX3_meets 77 = .ok (.aload_n 0, 1) := by decide +kernel
theorem dX3_meets_78 : decode cX3_meets 78 = .ok (.getfield 22, 3) := by decide +kernel
theorem dX3_meets_81 : decode cX3_meets 81 = .ok (.iload 4, 2) := by decide +kernel
theorem dX3_meets_83 : decode cX3_meets 83 = .ok (.iaload, 1) := by decide +kernel
theorem dX3_meets_84 : decode cX3_meets 84 = .ok (.iconst 1, 1) := by decide +kernel
theorem dX3_meets_85 : decode cX3_meets 85 = .ok (.bastore, 1) := by decide +kernel
theorem dX3_meets_86 : decode cX3_meets 86 = .ok (.iinc 3 1, 3) := by decide +kernel
theorem dX3_meets_89 : decode cX3_meets 89 = .ok (.iinc 4 1, 3) := by decide +kernel
theorem dX3_meets_92 : decode cX3_meets 92 = .ok (.goto (-62), 3) := by decide +kernel
theorem dX3_meets_95 : decode cX3_meets 95 = .ok (.iload_n 3, 1) := by decide +kernel
theorem dX3_meets_96 : decode cX3_meets 96 = .ok (.ireturn, 1) := by decide +kernel
set_option maxRecDepth 20000 in
theorem ggX3_codewordMany_X3_laysMessages : GoodIn wsX3_codewordMany wsX3_laysMessages := goodIn_r _ [6, 1, 7, 8, 9, 5, 10, 11, 12, 13, 14, 15, 16, 17, 18, 19, 20, 21, 22, 23, 24, 25, 26, 27] (by decide +kernel) (by decide +kernel)
set_option maxRecDepth 20000 in
theorem gX3_codewordMany_X3_laysMessages : GoodIn wsX3_codewordMany (wsV RX3 75 RX3 yX3_laysMessages wsX3_laysMessages) := goodIn_app (goodIn_of _ (by decide +kernel)) ggX3_codewordMany_X3_laysMessages
set_option maxRecDepth 20000 in
theorem ggX3_codewordMany_X3_words : GoodIn wsX3_codewordMany wsX3_words := goodIn_r _ [10, 11, 19, 20, 21, 22, 23, 24, 25, 26, 27] (by decide +kernel) (by decide +kernel)
set_option maxRecDepth 20000 in
theorem gX3_codewordMany_X3_words : GoodIn wsX3_codewordMany (wsV RX3 32 RX3 yX3_words wsX3_words) := goodIn_app (goodIn_of _ (by decide +kernel)) ggX3_codewordMany_X3_words
theorem dX3_codewordMany_0 : decode cX3_codewordMany 0 = .ok (.aload_n 0, 1) := by decide +kernel
theorem dX3_codewordMany_1 : decode cX3_codewordMany 1 = .ok (.invokevirtual 75, 3) := by decide +kernel
theorem dX3_codewordMany_4 : decode cX3_codewordMany 4 = .ok (.iconst 0, 1) := by decide +kernel
theorem dX3_codewordMany_5 : decode cX3_codewordMany 5 = .ok (.istore_n 1, 1) := by decide +kernel
theorem dX3_codewordMany_6 : decode cX3_codewordMany 6 = .ok (.iconst 0, 1) := by decide +kernel
theorem dX3_codewordMany_7 : decode cX3_codewordMany 7 = .ok (.istore_n 2, 1) := by decide +kernel
theorem dX3_codewordMany_8 : decode cX3_codewordMany 8 = .ok (.iload_n 2, 1) := by decide +kernel
theorem dX3_codewordMany_9 : decode cX3_codewordMany 9 = .ok (.aload_n 0, 1) := by decide +kernel
theorem dX3_codewordMany_10 : decode cX3_codewordMany 10 = .ok (.invokevirtual 32, 3) := by decide +kernel
theorem dX3_codewordMany_13 : decode cX3_codewordMany 13 = .ok (.if_icmp .ge 27, 3) := by decide +kernel
theorem dX3_codewordMany_16 : decode cX3_codewordMany 16 = .ok (.iload_n 1, 1) := by decide +kernel
theorem dX3_codewordMany_17 : decode cX3_codewordMany 17 = .ok (.aload_n 0, 1) := by decide +kernel
theorem dX3_codewordMany_18 : decode cX3_codewordMany 18 = .ok (.getfield 22, 3) := by decide +kernel
theorem dX3_codewordMany_21 : decode cX3_codewordMany 21 = .ok (.iload_n 2, 1) := by decide +kernel
theorem dX3_codewordMany_22 : decode cX3_codewordMany 22 = .ok (.iaload, 1) := by decide +kernel
theorem dX3_codewordMany_23 : decode cX3_codewordMany 23 = .ok (.iconst (-1), 1) := by decide +kernel
theorem dX3_codewordMany_24 : decode cX3_codewordMany 24 = .ok (.if_icmp .ne 7, 3) := by decide +kernel
theorem dX3_codewordMany_27 : decode cX3_codewordMany 27 = .ok (.iconst 0, 1) := by decide +kernel
theorem dX3_codewordMany_28 : decode cX3_codewordMany 28 = .ok (.goto 4, 3) := by decide +kernel
theorem dX3_codewordMany_31 : decode cX3_codewordMany 31 = .ok (.iconst 1, 1) := by decide +kernel
theorem dX3_codewordMany_32 : decode cX3_codewordMany 32 = .ok (.iadd, 1) := by decide +kernel
theorem dX3_codewordMany_33 : decode cX3_codewordMany 33 = .ok (.istore_n 1, 1) := by decide +kernel
theorem dX3_codewordMany_34 : decode cX3_codewordMany 34 = .ok (.iinc 2 1, 3) := by decide +kernel
theorem dX3_codewordMany_37 : decode cX3_codewordMany 37 = .ok (.goto (-29), 3) := by decide +kernel
theorem dX3_codewordMany_40 : decode cX3_codewordMany 40 = .ok (.iload_n 1, 1) := by decide +kernel
theorem dX3_codewordMany_41 : decode cX3_codewordMany 41 = .ok (.ireturn, 1) := by decide +kernel
set_option maxRecDepth 20000 in
theorem ggX3_codewords_X3_codewordMany : GoodIn wsX3_codewords wsX3_codewordMany := goodIn_r _ [5, 6, 7, 8, 9, 4, 10, 11, 12, 13, 14, 15, 16, 17, 18, 19, 20, 21, 22, 23, 24, 25, 26, 27, 28, 29, 30, 31] (by decide +kernel) (by decide +kernel)
set_option maxRecDepth 20000 in
theorem gX3_codewords_X3_codewordMany : GoodIn wsX3_codewords (wsV RX3 78 RX3 yX3_codewordMany wsX3_codewordMany) := goodIn_app (goodIn_of _ (by decide +kernel)) ggX3_codewords_X3_codewordMany
theorem dX3_codewords_0 : decode cX3_codewords 0 = .ok (.aload_n 0, 1) := by decide +kernel
theorem dX3_codewords_1 : decode cX3_codewords 1 = .ok (.invokevirtual 78, 3) := by decide +kernel
theorem dX3_codewords_4 : decode cX3_codewords 4 = .ok (.ireturn, 1) := by decide +kernel
set_option maxRecDepth 20000 in
theorem ggX3_messages_X3_meets : GoodIn wsX3_messages wsX3_meets := goodIn_r _ [5, 6, 7, 8, 9, 10, 4, 11, 12, 13, 14, 15, 16, 17, 18, 19, 20, 21, 22, 23, 24, 25, 26, 27, 28, 29, 30, 31, 32] (by decide +kernel) (by decide +kernel)
set_option maxRecDepth 20000 in
theorem gX3_messages_X3_meets : GoodIn wsX3_messages (wsV RX3 81 RX3 yX3_meets wsX3_meets) := goodIn_app (goodIn_of _ (by decide +kernel)) ggX3_messages_X3_meets
theorem dX3_messages_0 : decode cX3_messages 0 = .ok (.aload_n 0, 1) := by decide +kernel
theorem dX3_messages_1 : decode cX3_messages 1 = .ok (.iconst 0, 1) := by decide +kernel
theorem dX3_messages_2 : decode cX3_messages 2 = .ok (.iconst 0, 1) := by decide +kernel
theorem dX3_messages_3 : decode cX3_messages 3 = .ok (.invokevirtual 81, 3) := by decide +kernel
theorem dX3_messages_6 : decode cX3_messages 6 = .ok (.ireturn, 1) := by decide +kernel
set_option maxRecDepth 20000 in
theorem ggX3_choiceMany_X3_laysMessages : GoodIn wsX3_choiceMany wsX3_laysMessages := goodIn_r _ [6, 1, 7, 8, 9, 5, 10, 11, 12, 13, 14, 15, 16, 17, 18, 19, 20, 21, 22, 23, 24, 25, 26, 27] (by decide +kernel) (by decide +kernel)
set_option maxRecDepth 20000 in
theorem gX3_choiceMany_X3_laysMessages : GoodIn wsX3_choiceMany (wsV RX3 75 RX3 yX3_laysMessages wsX3_laysMessages) := goodIn_app (goodIn_of _ (by decide +kernel)) ggX3_choiceMany_X3_laysMessages
set_option maxRecDepth 20000 in
theorem ggX3_choiceMany_X3_words : GoodIn wsX3_choiceMany wsX3_words := goodIn_r _ [10, 11, 19, 20, 21, 22, 23, 24, 25, 26, 27] (by decide +kernel) (by decide +kernel)
set_option maxRecDepth 20000 in
theorem gX3_choiceMany_X3_words : GoodIn wsX3_choiceMany (wsV RX3 32 RX3 yX3_words wsX3_words) := goodIn_app (goodIn_of _ (by decide +kernel)) ggX3_choiceMany_X3_words
theorem dX3_choiceMany_0 : decode cX3_choiceMany 0 = .ok (.aload_n 0, 1) := by decide +kernel
theorem dX3_choiceMany_1 : decode cX3_choiceMany 1 = .ok (.invokevirtual 75, 3) := by decide +kernel
theorem dX3_choiceMany_4 : decode cX3_choiceMany 4 = .ok (.iconst 0, 1) := by decide +kernel
theorem dX3_choiceMany_5 : decode cX3_choiceMany 5 = .ok (.istore_n 2, 1) := by decide +kernel
theorem dX3_choiceMany_6 : decode cX3_choiceMany 6 = .ok (.iconst 0, 1) := by decide +kernel
theorem dX3_choiceMany_7 : decode cX3_choiceMany 7 = .ok (.istore_n 3, 1) := by decide +kernel
theorem dX3_choiceMany_8 : decode cX3_choiceMany 8 = .ok (.iload_n 3, 1) := by decide +kernel
theorem dX3_choiceMany_9 : decode cX3_choiceMany 9 = .ok (.aload_n 0, 1) := by decide +kernel
theorem dX3_choiceMany_10 : decode cX3_choiceMany 10 = .ok (.invokevirtual 32, 3) := by decide +kernel
theorem dX3_choiceMany_13 : decode cX3_choiceMany 13 = .ok (.if_icmp .ge 27, 3) := by decide +kernel
theorem dX3_choiceMany_16 : decode cX3_choiceMany 16 = .ok (.iload_n 2, 1) := by decide +kernel
theorem dX3_choiceMany_17 : decode cX3_choiceMany 17 = .ok (.aload_n 0, 1) := by decide +kernel
theorem dX3_choiceMany_18 : decode cX3_choiceMany 18 = .ok (.getfield 22, 3) := by decide +kernel
theorem dX3_choiceMany_21 : decode cX3_choiceMany 21 = .ok (.iload_n 3, 1) := by decide +kernel
theorem dX3_choiceMany_22 : decode cX3_choiceMany 22 = .ok (.iaload, 1) := by decide +kernel
theorem dX3_choiceMany_23 : decode cX3_choiceMany 23 = .ok (.iload_n 1, 1) := by decide +kernel
theorem dX3_choiceMany_24 : decode cX3_choiceMany 24 = .ok (.if_icmp .ne 7, 3) := by decide +kernel
theorem dX3_choiceMany_27 : decode cX3_choiceMany 27 = .ok (.iconst 1, 1) := by decide +kernel
theorem dX3_choiceMany_28 : decode cX3_choiceMany 28 = .ok (.goto 4, 3) := by decide +kernel
theorem dX3_choiceMany_31 : decode cX3_choiceMany 31 = .ok (.iconst 0, 1) := by decide +kernel
theorem dX3_choiceMany_32 : decode cX3_choiceMany 32 = .ok (.iadd, 1) := by decide +kernel
theorem dX3_choiceMany_33 : decode cX3_choiceMany 33 = .ok (.istore_n 2, 1) := by decide +kernel
theorem dX3_choiceMany_34 : decode cX3_choiceMany 34 = .ok (.iinc 3 1, 3) := by decide +kernel
theorem dX3_choiceMany_37 : decode cX3_choiceMany 37 = .ok (.goto (-29), 3) := by decide +kernel
theorem dX3_choiceMany_40 : decode cX3_choiceMany 40 = .ok (.iload_n 2, 1) := by decide +kernel
theorem dX3_choiceMany_41 : decode cX3_choiceMany 41 = .ok (.ireturn, 1) := by decide +kernel
set_option maxRecDepth 20000 in
theorem ggX3_choices_X3_within : GoodIn wsX3_choices wsX3_within := goodIn_r _ [4] (by decide +kernel) (by decide +kernel)
set_option maxRecDepth 20000 in
theorem gX3_choices_X3_within : GoodIn wsX3_choices (va_wsS RX3 36 yX3_within wsX3_within) := goodIn_app (goodIn_of _ (by decide +kernel)) ggX3_choices_X3_within
set_option maxRecDepth 20000 in
theorem ggX3_choices_X3_choiceMany : GoodIn wsX3_choices wsX3_choiceMany := goodIn_r _ [8, 9, 10, 11, 12, 3, 13, 14, 15, 16, 17, 18, 19, 20, 21, 22, 23, 24, 25, 31, 32, 33, 34, 35, 36, 37, 38, 39] (by decide +kernel) (by decide +kernel)
set_option maxRecDepth 20000 in
theorem gX3_choices_X3_choiceMany : GoodIn wsX3_choices (wsV RX3 84 RX3 yX3_choiceMany wsX3_choiceMany) := goodIn_app (goodIn_of _ (by decide +kernel)) ggX3_choices_X3_choiceMany
set_option maxRecDepth 20000 in
theorem ggX3_choices_X3_fails : GoodIn wsX3_choices wsX3_fails := goodIn_r _ [29, 30, 31, 32, 33, 34, 35, 36, 37, 38, 39] (by decide +kernel) (by decide +kernel)
set_option maxRecDepth 20000 in
theorem gX3_choices_X3_fails : GoodIn wsX3_choices (wsV RX3 44 RX3 yX3_fails wsX3_fails) := goodIn_app (goodIn_of _ (by decide +kernel)) ggX3_choices_X3_fails
theorem dX3_choices_0 : decode cX3_choices 0 = .ok (.iload_n 1, 1) := by decide +kernel
theorem dX3_choices_1 : decode cX3_choices 1 = .ok (.iconst 0, 1) := by decide +kernel
theorem dX3_choices_2 : decode cX3_choices 2 = .ok (.bipush 63, 2) := by decide +kernel
theorem dX3_choices_4 : decode cX3_choices 4 = .ok (.invokestatic 36, 3) := by decide +kernel
theorem dX3_choices_7 : decode cX3_choices 7 = .ok (.ifCond .eq 11, 3) := by decide +kernel
theorem dX3_choices_10 : decode cX3_choices 10 = .ok (.aload_n 0, 1) := by decide +kernel
theorem dX3_choices_11 : decode cX3_choices 11 = .ok (.iload_n 1, 1) := by decide +kernel
theorem dX3_choices_12 : decode cX3_choices 12 = .ok (.invokevirtual 84, 3) := by decide +kernel
theorem dX3_choices_15 : decode cX3_choices 15 = .ok (.goto 9, 3) := by decide +kernel
theorem dX3_choices_18 : decode cX3_choices 18 = .ok (.aload_n 0, 1) := by decide +kernel
theorem dX3_choices_19 : decode cX3_choices 19 = .ok (.bipush (-2), 2) := by decide +kernel
theorem dX3_choices_21 : decode cX3_choices 21 = .ok (.invokevirtual 44, 3) := by decide +kernel
theorem dX3_choices_24 : decode cX3_choices 24 = .ok (.ireturn, 1) := by decide +kernel
set_option maxRecDepth 20000 in
theorem ggX3_encode_X3_within : GoodIn wsX3_encode wsX3_within := goodIn_r _ [5] (by decide +kernel) (by decide +kernel)
set_option maxRecDepth 20000 in
theorem gX3_encode_X3_within : GoodIn wsX3_encode (va_wsS RX3 36 yX3_within wsX3_within) := goodIn_app (goodIn_of _ (by decide +kernel)) ggX3_encode_X3_within
set_option maxRecDepth 20000 in
theorem ggX3_encode_X3_fails : GoodIn wsX3_encode wsX3_fails := goodIn_r _ [9, 10, 27, 28, 29, 30, 31, 32, 33, 34, 35] (by decide +kernel) (by decide +kernel)
set_option maxRecDepth 20000 in
theorem gX3_encode_X3_fails : GoodIn wsX3_encode (wsV RX3 44 RX3 yX3_fails wsX3_fails) := goodIn_app (goodIn_of _ (by decide +kernel)) ggX3_encode_X3_fails
set_option maxRecDepth 20000 in
theorem ggX3_encode_X3_laysMessages : GoodIn wsX3_encode wsX3_laysMessages := goodIn_r _ [14, 1, 15, 16, 17, 4, 18, 19, 20, 21, 22, 23, 24, 25, 26, 27, 28, 29, 30, 31, 32, 33, 34, 35] (by decide +kernel) (by decide +kernel)
set_option maxRecDepth 20000 in
theorem gX3_encode_X3_laysMessages : GoodIn wsX3_encode (wsV RX3 75 RX3 yX3_laysMessages wsX3_laysMessages) := goodIn_app (goodIn_of _ (by decide +kernel)) ggX3_encode_X3_laysMessages
set_option maxRecDepth 20000 in
theorem ggX3_encode_X3_words : GoodIn wsX3_encode wsX3_words := goodIn_r _ [18, 19, 27, 28, 29, 30, 31, 32, 33, 34, 35] (by decide +kernel) (by decide +kernel)
set_option maxRecDepth 20000 in
theorem gX3_encode_X3_words : GoodIn wsX3_encode (wsV RX3 32 RX3 yX3_words wsX3_words) := goodIn_app (goodIn_of _ (by decide +kernel)) ggX3_encode_X3_words
theorem dX3_encode_0 : decode cX3_encode 0 = .ok (.iload_n 1, 1) := by decide +kernel
theorem dX3_encode_1 : decode cX3_encode 1 = .ok (.iconst 0, 1) := by decide +kernel
theorem dX3_encode_2 : decode cX3_encode 2 = .ok (.bipush 63, 2) := by decide +kernel
theorem dX3_encode_4 : decode cX3_encode 4 = .ok (.invokestatic 36, 3) := by decide +kernel
theorem dX3_encode_7 : decode cX3_encode 7 = .ok (.ifCond .eq 7, 3) := by decide +kernel
theorem dX3_encode_10 : decode cX3_encode 10 = .ok (.iload_n 2, 1) := by decide +kernel
theorem dX3_encode_11 : decode cX3_encode 11 = .ok (.ifCond .ge 10, 3) := by decide +kernel
theorem dX3_encode_14 : decode cX3_encode 14 = .ok (.aload_n 0, 1) := by decide +kernel
theorem dX3_encode_15 : decode cX3_encode 15 = .ok (.bipush (-2), 2) := by decide +kernel
theorem dX3_encode_17 : decode cX3_encode 17 = .ok (.invokevirtual 44, 3) := by decide +kernel
theorem dX3_encode_20 : decode cX3_encode 20 = .ok (.ireturn, 1) := by decide +kernel
theorem dX3_encode_21 : decode cX3_encode 21 = .ok (.aload_n 0, 1) := by decide +kernel
theorem dX3_encode_22 : decode cX3_encode 22 = .ok (.invokevirtual 75, 3) := by decide +kernel
theorem dX3_encode_25 : decode cX3_encode 25 = .ok (.iconst 0, 1) := by decide +kernel
theorem dX3_encode_26 : decode cX3_encode 26 = .ok (.istore_n 3, 1) := by decide +kernel
theorem dX3_encode_27 : decode cX3_encode 27 = .ok (.iconst 0, 1) := by decide +kernel
theorem dX3_encode_28 : decode cX3_encode 28 = .ok (.istore 4, 2) := by decide +kernel
theorem dX3_encode_30 : decode cX3_encode 30 = .ok (.iload 4, 2) := by decide +kernel
theorem dX3_encode_32 : decode cX3_encode 32 = .ok (.aload_n 0, 1) := by decide +kernel
theorem dX3_encode_33 : decode cX3_encode 33 = .ok (.invokevirtual 32, 3) := by decide +kernel
theorem dX3_encode_36 : decode cX3_encode 36 = .ok (.if_icmp .ge 31, 3) := by decide +kernel
theorem dX3_encode_39 : decode cX3_encode 39 = .ok (.aload_n 0, 1) := by decide +kernel
theorem dX3_encode_40 : decode cX3_encode 40 = .ok (.getfield 22, 3) := by decide +kernel
theorem dX3_encode_43 : decode cX3_encode 43 = .ok (.iload 4, 2) := by decide +kernel
theorem dX3_encode_45 : decode cX3_encode 45 = .ok (.iaload, 1) := by decide +kernel
theorem dX3_encode_46 : decode cX3_encode 46 = .ok (.iload_n 1, 1) := by decide +kernel
theorem dX3_encode_47 : decode cX3_encode 47 = .ok (.if_icmp .ne 14, 3) := by decide +kernel
theorem dX3_encode_50 : decode cX3_encode 50 = .ok (.iload_n 3, 1) := by decide +kernel
theorem dX3_encode_51 : decode cX3_encode 51 = .ok (.iload_n 2, 1) := by decide +kernel
theorem dX3_encode_52 : decode cX3_encode 52 = .ok (.if_icmp .ne 6, 3) := by decide +kernel
theorem dX3_encode_55 : decode cX3_encode 55 = .ok (.iload 4, 2) := by decide +kernel
theorem dX3_encode_57 : decode cX3_encode 57 = .ok (.ireturn, 1) := by decide +kernel
theorem dX3_encode_58 : decode cX3_encode 58 = .ok (.iinc 3 1, 3) := by decide +kernel
theorem dX3_encode_61 : decode cX3_encode 61 = .ok (.iinc 4 1, 3) := by decide +kernel
theorem dX3_encode_64 : decode cX3_encode 64 = .ok (.goto (-34), 3) := by decide +kernel
theorem dX3_encode_67 : decode cX3_encode 67 = .ok (.aload_n 0, 1) := by decide +kernel
theorem dX3_encode_68 : decode cX3_encode 68 = .ok (.bipush (-3), 2) := by decide +kernel
theorem dX3_encode_70 : decode cX3_encode 70 = .ok (.invokevirtual 44, 3) := by decide +kernel
theorem dX3_encode_73 : decode cX3_encode 73 = .ok (.ireturn, 1) := by decide +kernel
set_option maxRecDepth 20000 in
theorem ggX3_nearest_X3_words : GoodIn wsX3_nearest wsX3_words := goodIn_r _ [6, 7, 11, 12, 13, 14, 15, 16, 17, 18, 19] (by decide +kernel) (by decide +kernel)
set_option maxRecDepth 20000 in
theorem gX3_nearest_X3_words : GoodIn wsX3_nearest (wsV RX3 32 RX3 yX3_words wsX3_words) := goodIn_app (goodIn_of _ (by decide +kernel)) ggX3_nearest_X3_words
set_option maxRecDepth 20000 in
theorem ggX3_nearest_X3_ones : GoodIn wsX3_nearest wsX3_ones := goodIn_r _ [10] (by decide +kernel) (by decide +kernel)
set_option maxRecDepth 20000 in
theorem gX3_nearest_X3_ones : GoodIn wsX3_nearest (va_wsS RX3 69 yX3_ones wsX3_ones) := goodIn_app (goodIn_of _ (by decide +kernel)) ggX3_nearest_X3_ones
theorem dX3_nearest_0 : decode cX3_nearest 0 = .ok (.bipush 99, 2) := by decide +kernel
theorem dX3_nearest_2 : decode cX3_nearest 2 = .ok (.istore_n 2, 1) := by decide +kernel
theorem dX3_nearest_3 : decode cX3_nearest 3 = .ok (.iconst 0, 1) := by decide +kernel
theorem dX3_nearest_4 : decode cX3_nearest 4 = .ok (.istore_n 3, 1) := by decide +kernel
theorem dX3_nearest_5 : decode cX3_nearest 5 = .ok (.iload_n 3, 1) := by decide +kernel
theorem dX3_nearest_6 : decode cX3_nearest 6 = .ok (.aload_n 0, 1) := by decide +kernel
theorem dX3_nearest_7 : decode cX3_nearest 7 = .ok (.invokevirtual 32, 3) := by decide +kernel
theorem dX3_nearest_10 : decode cX3_nearest 10 = .ok (.if_icmp .ge 45, 3) := by decide +kernel
theorem dX3_nearest_13 : decode cX3_nearest 13 = .ok (.aload_n 0, 1) := by decide +kernel
theorem dX3_nearest_14 : decode cX3_nearest 14 = .ok (.getfield 22, 3) := by decide +kernel
theorem dX3_nearest_17 : decode cX3_nearest 17 = .ok (.iload_n 3, 1) := by decide +kernel
theorem dX3_nearest_18 : decode cX3_nearest 18 = .ok (.iaload, 1) := by decide +kernel
theorem dX3_nearest_19 : decode cX3_nearest 19 = .ok (.iconst (-1), 1) := by decide +kernel
theorem dX3_nearest_20 : decode cX3_nearest 20 = .ok (.if_icmp .ne 8, 3) := by decide +kernel
theorem dX3_nearest_23 : decode cX3_nearest 23 = .ok (.bipush 99, 2) := by decide +kernel
theorem dX3_nearest_25 : decode cX3_nearest 25 = .ok (.goto 9, 3) := by decide +kernel
theorem dX3_nearest_28 : decode cX3_nearest 28 = .ok (.iload_n 3, 1) := by decide +kernel
theorem dX3_nearest_29 : decode cX3_nearest 29 = .ok (.iload_n 1, 1) := by decide +kernel
theorem dX3_nearest_30 : decode cX3_nearest 30 = .ok (.ixor, 1) := by decide +kernel
theorem dX3_nearest_31 : decode cX3_nearest 31 = .ok (.invokestatic 69, 3) := by decide +kernel
theorem dX3_nearest_34 : decode cX3_nearest 34 = .ok (.istore 4, 2) := by decide +kernel
theorem dX3_nearest_36 : decode cX3_nearest 36 = .ok (.iload 4, 2) := by decide +kernel
theorem dX3_nearest_38 : decode cX3_nearest 38 = .ok (.iload_n 2, 1) := by decide +kernel
theorem dX3_nearest_39 : decode cX3_nearest 39 = .ok (.if_icmp .ge 8, 3) := by decide +kernel
theorem dX3_nearest_42 : decode cX3_nearest 42 = .ok (.iload 4, 2) := by decide +kernel
theorem dX3_nearest_44 : decode cX3_nearest 44 = .ok (.goto 4, 3) := by decide +kernel
theorem dX3_nearest_47 : decode cX3_nearest 47 = .ok (.iload_n 2, 1) := by decide +kernel
theorem dX3_nearest_48 : decode cX3_nearest 48 = .ok (.istore_n 2, 1) := by decide +kernel
theorem dX3_nearest_49 : decode cX3_nearest 49 = .ok (.iinc 3 1, 3) := by decide +kernel
theorem dX3_nearest_52 : decode cX3_nearest 52 = .ok (.goto (-47), 3) := by decide +kernel
theorem dX3_nearest_55 : decode cX3_nearest 55 = .ok (.iload_n 2, 1) := by decide +kernel
theorem dX3_nearest_56 : decode cX3_nearest 56 = .ok (.ireturn, 1) := by decide +kernel
set_option maxRecDepth 20000 in
theorem ggX3_decoded_X3_nearest : GoodIn wsX3_decoded wsX3_nearest := goodIn_r _ [6, 1, 7, 8, 9, 5, 10, 11, 12, 13, 14, 15, 16, 17, 18, 19, 20, 21, 22, 23] (by decide +kernel) (by decide +kernel)
set_option maxRecDepth 20000 in
theorem gX3_decoded_X3_nearest : GoodIn wsX3_decoded (wsV RX3 87 RX3 yX3_nearest wsX3_nearest) := goodIn_app (goodIn_of _ (by decide +kernel)) ggX3_decoded_X3_nearest
set_option maxRecDepth 20000 in
theorem ggX3_decoded_X3_words : GoodIn wsX3_decoded wsX3_words := goodIn_r _ [10, 11, 15, 16, 17, 18, 19, 20, 21, 22, 23] (by decide +kernel) (by decide +kernel)
set_option maxRecDepth 20000 in
theorem gX3_decoded_X3_words : GoodIn wsX3_decoded (wsV RX3 32 RX3 yX3_words wsX3_words) := goodIn_app (goodIn_of _ (by decide +kernel)) ggX3_decoded_X3_words
set_option maxRecDepth 20000 in
theorem ggX3_decoded_X3_ones : GoodIn wsX3_decoded wsX3_ones := goodIn_r _ [14] (by decide +kernel) (by decide +kernel)
set_option maxRecDepth 20000 in
theorem gX3_decoded_X3_ones : GoodIn wsX3_decoded (va_wsS RX3 69 yX3_ones wsX3_ones) := goodIn_app (goodIn_of _ (by decide +kernel)) ggX3_decoded_X3_ones
theorem dX3_decoded_0 : decode cX3_decoded 0 = .ok (.aload_n 0, 1) := by decide +kernel
theorem dX3_decoded_1 : decode cX3_decoded 1 = .ok (.iload_n 1, 1) := by decide +kernel
theorem dX3_decoded_2 : decode cX3_decoded 2 = .ok (.invokevirtual 87, 3) := by decide +kernel
theorem dX3_decoded_5 : decode cX3_decoded 5 = .ok (.istore_n 2, 1) := by decide +kernel
theorem dX3_decoded_6 : decode cX3_decoded 6 = .ok (.iconst (-1), 1) := by decide +kernel
theorem dX3_decoded_7 : decode cX3_decoded 7 = .ok (.istore_n 3, 1) := by decide +kernel
theorem dX3_decoded_8 : decode cX3_decoded 8 = .ok (.iconst 0, 1) := by decide +kernel
theorem dX3_decoded_9 : decode cX3_decoded 9 = .ok (.istore 4, 2) := by decide +kernel
theorem dX3_decoded_11 : decode cX3_decoded 11 = .ok (.iload 4, 2) := by decide +kernel
theorem dX3_decoded_13 : decode cX3_decoded 13 = .ok (.aload_n 0, 1) := by decide +kernel
theorem dX3_decoded_14 : decode cX3_decoded 14 = .ok (.invokevirtual 32, 3) := by decide +kernel
theorem dX3_decoded_17 : decode cX3_decoded 17 = .ok (.if_icmp .ge 58, 3) := by decide +kernel
theorem dX3_decoded_20 : decode cX3_decoded 20 = .ok (.aload_n 0, 1) := by decide +kernel
theorem dX3_decoded_21 : decode cX3_decoded 21 = .ok (.getfield 22, 3) := by decide +kernel
theorem dX3_decoded_24 : decode cX3_decoded 24 = .ok (.iload 4, 2) := by decide +kernel
theorem dX3_decoded_26 : decode cX3_decoded 26 = .ok (.iaload, 1) := by decide +kernel
theorem dX3_decoded_27 : decode cX3_decoded 27 = .ok (.iconst (-1), 1) := by decide +kernel
theorem dX3_decoded_28 : decode cX3_decoded 28 = .ok (.if_icmp .eq 41, 3) := by decide +kernel
theorem dX3_decoded_31 : decode cX3_decoded 31 = .ok (.iload 4, 2) := by decide +kernel
theorem dX3_decoded_33 : decode cX3_decoded 33 = .ok (.iload_n 1, 1) := by decide +kernel
theorem dX3_decoded_34 : decode cX3_decoded 34 = .ok (.ixor, 1) := by decide +kernel
theorem dX3_decoded_35 : decode cX3_decoded 35 = .ok (.invokestatic 69, 3) := by decide +kernel
theorem dX3_decoded_38 : decode cX3_decoded 38 = .ok (.iload_n 2, 1) := by decide +kernel
theorem dX3_decoded_39 : decode cX3_decoded 39 = .ok (.if_icmp .ne 30, 3) := by decide +kernel
theorem dX3_decoded_42 : decode cX3_decoded 42 = .ok (.iload_n 3, 1) := by decide +kernel
theorem dX3_decoded_43 : decode cX3_decoded 43 = .ok (.iconst (-1), 1) := by decide +kernel
theorem dX3_decoded_44 : decode cX3_decoded 44 = .ok (.if_icmp .eq 17, 3) := by decide +kernel
theorem dX3_decoded_47 : decode cX3_decoded 47 = .ok (.iload_n 3, 1) := by decide +kernel
theorem dX3_decoded_48 : decode cX3_decoded 48 = .ok (.aload_n 0, 1) := by decide +kernel
theorem dX3_decoded_49 : decode cX3_decoded 49 = .ok (.getfield 22, 3) := by decide +kernel
theorem dX3_decoded_52 : decode cX3_decoded 52 = .ok (.iload 4, 2) := by decide +kernel
theorem dX3_decoded_54 : decode cX3_decoded 54 = .ok (.iaload, 1) := by decide +kernel
theorem dX3_decoded_55 : decode cX3_decoded 55 = .ok (.if_icmp .eq 6, 3) := by decide +kernel
theorem dX3_decoded_58 : decode cX3_decoded 58 = .ok (.bipush (-5), 2) := by decide +kernel
theorem dX3_decoded_60 : decode cX3_decoded 60 = .ok (.ireturn, 1) := by decide +kernel
theorem dX3_decoded_61 : decode cX3_decoded 61 = .ok (.aload_n 0, 1) := by decide +kernel
theorem dX3_decoded_62 : decode cX3_decoded 62 = .ok (.getfield 22, 3) := by decide +kernel
theorem dX3_decoded_65 : decode cX3_decoded 65 = .ok (.iload 4, 2) := by decide +kernel
theorem dX3_decoded_67 : decode cX3_decoded 67 = .ok (.iaload, 1) := by decide +kernel
theorem dX3_decoded_68 : decode cX3_decoded 68 = .ok (.istore_n 3, 1) := by decide +kernel
theorem dX3_decoded_69 : decode cX3_decoded 69 = .ok (.iinc 4 1, 3) := by decide +kernel
theorem dX3_decoded_72 : decode cX3_decoded 72 = .ok (.goto (-61), 3) := by decide +kernel
theorem dX3_decoded_75 : decode cX3_decoded 75 = .ok (.iload_n 3, 1) := by decide +kernel
theorem dX3_decoded_76 : decode cX3_decoded 76 = .ok (.ireturn, 1) := by decide +kernel
set_option maxRecDepth 20000 in
theorem ggX3_decode_X3_isWord : GoodIn wsX3_decode wsX3_isWord := goodIn_r _ [5, 6, 7, 8, 4, 9, 10, 11, 12, 13, 39, 40, 41, 42, 43, 44, 45, 46, 47] (by decide +kernel) (by decide +kernel)
set_option maxRecDepth 20000 in
theorem gX3_decode_X3_isWord : GoodIn wsX3_decode (wsV RX3 51 RX3 yX3_isWord wsX3_isWord) := goodIn_app (goodIn_of _ (by decide +kernel)) ggX3_decode_X3_isWord
set_option maxRecDepth 20000 in
theorem ggX3_decode_X3_fails : GoodIn wsX3_decode wsX3_fails := goodIn_r _ [17, 18, 39, 40, 41, 42, 43, 44, 45, 46, 47] (by decide +kernel) (by decide +kernel)
set_option maxRecDepth 20000 in
theorem gX3_decode_X3_fails : GoodIn wsX3_decode (wsV RX3 44 RX3 yX3_fails wsX3_fails) := goodIn_app (goodIn_of _ (by decide +kernel)) ggX3_decode_X3_fails
set_option maxRecDepth 20000 in
theorem ggX3_decode_X3_laysMessages : GoodIn wsX3_decode wsX3_laysMessages := goodIn_r _ [22, 23, 6, 7, 8, 4, 9, 10, 24, 25, 26, 27, 28, 29, 30, 39, 40, 41, 42, 43, 44, 45, 46, 47] (by decide +kernel) (by decide +kernel)
set_option maxRecDepth 20000 in
theorem gX3_decode_X3_laysMessages : GoodIn wsX3_decode (wsV RX3 75 RX3 yX3_laysMessages wsX3_laysMessages) := goodIn_app (goodIn_of _ (by decide +kernel)) ggX3_decode_X3_laysMessages
set_option maxRecDepth 20000 in
theorem ggX3_decode_X3_decoded : GoodIn wsX3_decode wsX3_decoded := goodIn_r _ [34, 23, 35, 36, 37, 4, 38, 6, 7, 8, 9, 10, 28, 29, 30, 39, 40, 41, 42, 43, 44, 45, 46, 47] (by decide +kernel) (by decide +kernel)
set_option maxRecDepth 20000 in
theorem gX3_decode_X3_decoded : GoodIn wsX3_decode (wsV RX3 90 RX3 yX3_decoded wsX3_decoded) := goodIn_app (goodIn_of _ (by decide +kernel)) ggX3_decode_X3_decoded
theorem dX3_decode_0 : decode cX3_decode 0 = .ok (.aload_n 0, 1) := by decide +kernel
theorem dX3_decode_1 : decode cX3_decode 1 = .ok (.iload_n 1, 1) := by decide +kernel
theorem dX3_decode_2 : decode cX3_decode 2 = .ok (.invokevirtual 51, 3) := by decide +kernel
theorem dX3_decode_5 : decode cX3_decode 5 = .ok (.ifCond .ne 10, 3) := by decide +kernel
theorem dX3_decode_8 : decode cX3_decode 8 = .ok (.aload_n 0, 1) := by decide +kernel
theorem dX3_decode_9 : decode cX3_decode 9 = .ok (.bipush (-2), 2) := by decide +kernel
theorem dX3_decode_11 : decode cX3_decode 11 = .ok (.invokevirtual 44, 3) := by decide +kernel
theorem dX3_decode_14 : decode cX3_decode 14 = .ok (.ireturn, 1) := by decide +kernel
theorem dX3_decode_15 : decode cX3_decode 15 = .ok (.aload_n 0, 1) := by decide +kernel
theorem dX3_decode_16 : decode cX3_decode 16 = .ok (.invokevirtual 75, 3) := by decide +kernel
theorem dX3_decode_19 : decode cX3_decode 19 = .ok (.aload_n 0, 1) := by decide +kernel
theorem dX3_decode_20 : decode cX3_decode 20 = .ok (.iload_n 1, 1) := by decide +kernel
theorem dX3_decode_21 : decode cX3_decode 21 = .ok (.invokevirtual 90, 3) := by decide +kernel
theorem dX3_decode_24 : decode cX3_decode 24 = .ok (.istore_n 2, 1) := by decide +kernel
theorem dX3_decode_25 : decode cX3_decode 25 = .ok (.iload_n 2, 1) := by decide +kernel
theorem dX3_decode_26 : decode cX3_decode 26 = .ok (.bipush (-5), 2) := by decide +kernel
theorem dX3_decode_28 : decode cX3_decode 28 = .ok (.if_icmp .ne 12, 3) := by decide +kernel
theorem dX3_decode_31 : decode cX3_decode 31 = .ok (.aload_n 0, 1) := by decide +kernel
theorem dX3_decode_32 : decode cX3_decode 32 = .ok (.bipush (-5), 2) := by decide +kernel
theorem dX3_decode_34 : decode cX3_decode 34 = .ok (.invokevirtual 44, 3) := by decide +kernel
theorem dX3_decode_37 : decode cX3_decode 37 = .ok (.goto 4, 3) := by decide +kernel
theorem dX3_decode_40 : decode cX3_decode 40 = .ok (.iload_n 2, 1) := by decide +kernel
theorem dX3_decode_41 : decode cX3_decode 41 = .ok (.ireturn, 1) := by decide +kernel
set_option maxRecDepth 20000 in
theorem ggX3_distance_X3_isWord : GoodIn wsX3_distance wsX3_isWord := goodIn_r _ [5, 6, 7, 8, 4, 9, 10, 11, 12, 13, 35, 36, 37, 38, 39, 40, 41, 42, 43] (by decide +kernel) (by decide +kernel)
set_option maxRecDepth 20000 in
theorem gX3_distance_X3_isWord : GoodIn wsX3_distance (wsV RX3 51 RX3 yX3_isWord wsX3_isWord) := goodIn_app (goodIn_of _ (by decide +kernel)) ggX3_distance_X3_isWord
set_option maxRecDepth 20000 in
theorem ggX3_distance_X3_fails : GoodIn wsX3_distance wsX3_fails := goodIn_r _ [17, 18, 35, 36, 37, 38, 39, 40, 41, 42, 43] (by decide +kernel) (by decide +kernel)
set_option maxRecDepth 20000 in
theorem gX3_distance_X3_fails : GoodIn wsX3_distance (wsV RX3 44 RX3 yX3_fails wsX3_fails) := goodIn_app (goodIn_of _ (by decide +kernel)) ggX3_distance_X3_fails
set_option maxRecDepth 20000 in
theorem ggX3_distance_X3_laysMessages : GoodIn wsX3_distance wsX3_laysMessages := goodIn_r _ [22, 23, 6, 7, 8, 4, 9, 10, 24, 25, 26, 27, 28, 29, 30, 35, 36, 37, 38, 39, 40, 41, 42, 43] (by decide +kernel) (by decide +kernel)
set_option maxRecDepth 20000 in
theorem gX3_distance_X3_laysMessages : GoodIn wsX3_distance (wsV RX3 75 RX3 yX3_laysMessages wsX3_laysMessages) := goodIn_app (goodIn_of _ (by decide +kernel)) ggX3_distance_X3_laysMessages
set_option maxRecDepth 20000 in
theorem ggX3_distance_X3_nearest : GoodIn wsX3_distance wsX3_nearest := goodIn_r _ [34, 23, 6, 7, 8, 4, 9, 10, 28, 29, 30, 35, 36, 37, 38, 39, 40, 41, 42, 43] (by decide +kernel) (by decide +kernel)
set_option maxRecDepth 20000 in
theorem gX3_distance_X3_nearest : GoodIn wsX3_distance (wsV RX3 87 RX3 yX3_nearest wsX3_nearest) := goodIn_app (goodIn_of _ (by decide +kernel)) ggX3_distance_X3_nearest
theorem dX3_distance_0 : decode cX3_distance 0 = .ok (.aload_n 0, 1) := by decide +kernel
theorem dX3_distance_1 : decode cX3_distance 1 = .ok (.iload_n 1, 1) := by decide +kernel
theorem dX3_distance_2 : decode cX3_distance 2 = .ok (.invokevirtual 51, 3) := by decide +kernel
theorem dX3_distance_5 : decode cX3_distance 5 = .ok (.ifCond .ne 10, 3) := by decide +kernel
theorem dX3_distance_8 : decode cX3_distance 8 = .ok (.aload_n 0, 1) := by decide +kernel
theorem dX3_distance_9 : decode cX3_distance 9 = .ok (.bipush (-2), 2) := by decide +kernel
theorem dX3_distance_11 : decode cX3_distance 11 = .ok (.invokevirtual 44, 3) := by decide +kernel
theorem dX3_distance_14 : decode cX3_distance 14 = .ok (.ireturn, 1) := by decide +kernel
theorem dX3_distance_15 : decode cX3_distance 15 = .ok (.aload_n 0, 1) := by decide +kernel
theorem dX3_distance_16 : decode cX3_distance 16 = .ok (.invokevirtual 75, 3) := by decide +kernel
theorem dX3_distance_19 : decode cX3_distance 19 = .ok (.aload_n 0, 1) := by decide +kernel
theorem dX3_distance_20 : decode cX3_distance 20 = .ok (.iload_n 1, 1) := by decide +kernel
theorem dX3_distance_21 : decode cX3_distance 21 = .ok (.invokevirtual 87, 3) := by decide +kernel
theorem dX3_distance_24 : decode cX3_distance 24 = .ok (.ireturn, 1) := by decide +kernel
set_option maxRecDepth 20000 in
theorem ggX3_weakness_X3_laysMessages : GoodIn wsX3_weakness wsX3_laysMessages := goodIn_r _ [6, 1, 7, 8, 9, 5, 10, 11, 12, 13, 14, 15, 16, 17, 18, 27, 28, 29, 30, 31, 32, 33, 34, 35] (by decide +kernel) (by decide +kernel)
set_option maxRecDepth 20000 in
theorem gX3_weakness_X3_laysMessages : GoodIn wsX3_weakness (wsV RX3 75 RX3 yX3_laysMessages wsX3_laysMessages) := goodIn_app (goodIn_of _ (by decide +kernel)) ggX3_weakness_X3_laysMessages
set_option maxRecDepth 20000 in
theorem ggX3_weakness_X3_words : GoodIn wsX3_weakness wsX3_words := goodIn_r _ [10, 11, 27, 28, 29, 30, 31, 32, 33, 34, 35] (by decide +kernel) (by decide +kernel)
set_option maxRecDepth 20000 in
theorem gX3_weakness_X3_words : GoodIn wsX3_weakness (wsV RX3 32 RX3 yX3_words wsX3_words) := goodIn_app (goodIn_of _ (by decide +kernel)) ggX3_weakness_X3_words
set_option maxRecDepth 20000 in
theorem ggX3_weakness_X3_decoded : GoodIn wsX3_weakness wsX3_decoded := goodIn_r _ [22, 1, 23, 24, 25, 5, 26, 7, 8, 9, 10, 11, 16, 17, 18, 27, 28, 29, 30, 31, 32, 33, 34, 35] (by decide +kernel) (by decide +kernel)
set_option maxRecDepth 20000 in
theorem gX3_weakness_X3_decoded : GoodIn wsX3_weakness (wsV RX3 90 RX3 yX3_decoded wsX3_decoded) := goodIn_app (goodIn_of _ (by decide +kernel)) ggX3_weakness_X3_decoded
set_option maxRecDepth 20000 in
theorem ggX3_weakness_X3_ones : GoodIn wsX3_weakness wsX3_ones := goodIn_r _ [18] (by decide +kernel) (by decide +kernel)
set_option maxRecDepth 20000 in
theorem gX3_weakness_X3_ones : GoodIn wsX3_weakness (va_wsS RX3 69 yX3_ones wsX3_ones) := goodIn_app (goodIn_of _ (by decide +kernel)) ggX3_weakness_X3_ones
theorem dX3_weakness_0 : decode cX3_weakness 0 = .ok (.aload_n 0, 1) := by decide +kernel
theorem dX3_weakness_1 : decode cX3_weakness 1 = .ok (.invokevirtual 75, 3) := by decide +kernel
theorem dX3_weakness_4 : decode cX3_weakness 4 = .ok (.bipush 99, 2) := by decide +kernel
theorem dX3_weakness_6 : decode cX3_weakness 6 = .ok (.istore_n 1, 1) := by decide +kernel
theorem dX3_weakness_7 : decode cX3_weakness 7 = .ok (.iconst 0, 1) := by decide +kernel
theorem dX3_weakness_8 : decode cX3_weakness 8 = .ok (.istore_n 2, 1) := by decide +kernel
theorem dX3_weakness_9 : decode cX3_weakness 9 = .ok (.iload_n 2, 1) := by decide +kernel
theorem dX3_weakness_10 : decode cX3_weakness 10 = .ok (.aload_n 0, 1) := by decide +kernel
theorem dX3_weakness_11 : decode cX3_weakness 11 = .ok (.invokevirtual 32, 3) := by decide +kernel
theorem dX3_weakness_14 : decode cX3_weakness 14 = .ok (.if_icmp .ge 90, 3) := by decide +kernel
theorem dX3_weakness_17 : decode cX3_weakness 17 = .ok (.aload_n 0, 1) := by decide +kernel
theorem dX3_weakness_18 : decode cX3_weakness 18 = .ok (.iload_n 2, 1) := by decide +kernel
theorem dX3_weakness_19 : decode cX3_weakness 19 = .ok (.invokevirtual 90, 3) := by decide +kernel
theorem dX3_weakness_22 : decode cX3_weakness 22 = .ok (.istore_n 3, 1) := by decide +kernel
theorem dX3_weakness_23 : decode cX3_weakness 23 = .ok (.iconst 0, 1) := by decide +kernel
theorem dX3_weakness_24 : decode cX3_weakness 24 = .ok (.istore 4, 2) := by decide +kernel
theorem dX3_weakness_26 : decode cX3_weakness 26 = .ok (.iload 4, 2) := by decide +kernel
theorem dX3_weakness_28 : decode cX3_weakness 28 = .ok (.aload_n 0, 1) := by decide +kernel
theorem dX3_weakness_29 : decode cX3_weakness 29 = .ok (.invokevirtual 32, 3) := by decide +kernel
theorem dX3_weakness_32 : decode cX3_weakness 32 = .ok (.if_icmp .ge 66, 3) := by decide +kernel
theorem dX3_weakness_35 : decode cX3_weakness 35 = .ok (.aload_n 0, 1) := by decide +kernel
theorem dX3_weakness_36 : decode cX3_weakness 36 = .ok (.getfield 22, 3) := by decide +kernel
theorem dX3_weakness_39 : decode cX3_weakness 39 = .ok (.iload 4, 2) := by decide +kernel
theorem dX3_weakness_41 : decode cX3_weakness 41 = .ok (.iaload, 1) := by decide +kernel
theorem dX3_weakness_42 : decode cX3_weakness 42 = .ok (.iconst (-1), 1) := by decide +kernel
theorem dX3_weakness_43 : decode cX3_weakness 43 = .ok (.if_icmp .eq 29, 3) := by decide +kernel
theorem dX3_weakness_46 : decode cX3_weakness 46 = .ok (.aload_n 0, 1) := by decide +kernel
theorem dX3_weakness_47 : decode cX3_weakness 47 = .ok (.getfield 22, 3) := by decide +kernel
theorem dX3_weakness_50 : decode cX3_weakness 50 = .ok (.iload 4, 2) := by decide +kernel
theorem dX3_weakness_52 : decode cX3_weakness 52 = .ok (.iaload, 1) := by decide +kernel
theorem dX3_weakness_53 : decode cX3_weakness 53 = .ok (.iload_n 3, 1) := by decide +kernel
theorem dX3_weakness_54 : decode cX3_weakness 54 = .ok (.if_icmp .eq 18, 3) := by decide +kernel
theorem dX3_weakness_57 : decode cX3_weakness 57 = .ok (.iload 4, 2) := by decide +kernel
theorem dX3_weakness_59 : decode cX3_weakness 59 = .ok (.iload_n 2, 1) := by decide +kernel
theorem dX3_weakness_60 : decode cX3_weakness 60 = .ok (.ixor, 1) := by decide +kernel
theorem dX3_weakness_61 : decode cX3_weakness 61 = .ok (.invokestatic 69, 3) := by decide +kernel
theorem dX3_weakness_64 : decode cX3_weakness 64 = .ok (.iload_n 1, 1) := by decide +kernel
theorem dX3_weakness_65 : decode cX3_weakness 65 = .ok (.if_icmp .ge 7, 3) := by decide +kernel
theorem dX3_weakness_68 : decode cX3_weakness 68 = .ok (.iconst 1, 1) := by decide +kernel
theorem dX3_weakness_69 : decode cX3_weakness 69 = .ok (.goto 4, 3) := by decide +kernel
theorem dX3_weakness_72 : decode cX3_weakness 72 = .ok (.iconst 0, 1) := by decide +kernel
theorem dX3_weakness_73 : decode cX3_weakness 73 = .ok (.istore 5, 2) := by decide +kernel
theorem dX3_weakness_75 : decode cX3_weakness 75 = .ok (.iload 5, 2) := by decide +kernel
theorem dX3_weakness_77 : decode cX3_weakness 77 = .ok (.ifCond .eq 13, 3) := by decide +kernel
theorem dX3_weakness_80 : decode cX3_weakness 80 = .ok (.iload 4, 2) := by decide +kernel
theorem dX3_weakness_82 : decode cX3_weakness 82 = .ok (.iload_n 2, 1) := by decide +kernel
theorem dX3_weakness_83 : decode cX3_weakness 83 = .ok (.ixor, 1) := by decide +kernel
theorem dX3_weakness_84 : decode cX3_weakness 84 = .ok (.invokestatic 69, 3) := by decide +kernel
theorem dX3_weakness_87 : decode cX3_weakness 87 = .ok (.goto 4, 3) := by decide +kernel
theorem dX3_weakness_90 : decode cX3_weakness 90 = .ok (.iload_n 1, 1) := by decide +kernel
theorem dX3_weakness_91 : decode cX3_weakness 91 = .ok (.istore_n 1, 1) := by decide +kernel
theorem dX3_weakness_92 : decode cX3_weakness 92 = .ok (.iinc 4 1, 3) := by decide +kernel
theorem dX3_weakness_95 : decode cX3_weakness 95 = .ok (.goto (-69), 3) := by decide +kernel
theorem dX3_weakness_98 : decode cX3_weakness 98 = .ok (.iinc 2 1, 3) := by decide +kernel
theorem dX3_weakness_101 : decode cX3_weakness 101 = .ok (.goto (-92), 3) := by decide +kernel
theorem dX3_weakness_104 : decode cX3_weakness 104 = .ok (.iload_n 1, 1) := by decide +kernel
theorem dX3_weakness_105 : decode cX3_weakness 105 = .ok (.bipush 99, 2) := by decide +kernel
theorem dX3_weakness_107 : decode cX3_weakness 107 = .ok (.if_icmp .ne 7, 3) := by decide +kernel
theorem dX3_weakness_110 : decode cX3_weakness 110 = .ok (.iconst (-1), 1) := by decide +kernel
theorem dX3_weakness_111 : decode cX3_weakness 111 = .ok (.goto 4, 3) := by decide +kernel
theorem dX3_weakness_114 : decode cX3_weakness 114 = .ok (.iload_n 1, 1) := by decide +kernel
theorem dX3_weakness_115 : decode cX3_weakness 115 = .ok (.ireturn, 1) := by decide +kernel
set_option maxRecDepth 20000 in
theorem ggX3_lost_X3_words : GoodIn wsX3_lost wsX3_words := goodIn_r _ [5, 6, 12, 13, 14, 15, 16, 17, 18, 19, 20] (by decide +kernel) (by decide +kernel)
set_option maxRecDepth 20000 in
theorem gX3_lost_X3_words : GoodIn wsX3_lost (wsV RX3 32 RX3 yX3_words wsX3_words) := goodIn_app (goodIn_of _ (by decide +kernel)) ggX3_lost_X3_words
set_option maxRecDepth 20000 in
theorem ggX3_lost_X3_rankOf : GoodIn wsX3_lost wsX3_rankOf := goodIn_r _ [10, 6, 11, 12, 13, 14, 15, 16, 17, 18, 19, 20] (by decide +kernel) (by decide +kernel)
set_option maxRecDepth 20000 in
theorem gX3_lost_X3_rankOf : GoodIn wsX3_lost (wsV RX3 65 RX3 yX3_rankOf wsX3_rankOf) := goodIn_app (goodIn_of _ (by decide +kernel)) ggX3_lost_X3_rankOf
theorem dX3_lost_0 : decode cX3_lost 0 = .ok (.aload_n 0, 1) := by decide +kernel
theorem dX3_lost_1 : decode cX3_lost 1 = .ok (.invokevirtual 32, 3) := by decide +kernel
theorem dX3_lost_4 : decode cX3_lost 4 = .ok (.iconst 1, 1) := by decide +kernel
theorem dX3_lost_5 : decode cX3_lost 5 = .ok (.isub, 1) := by decide +kernel
theorem dX3_lost_6 : decode cX3_lost 6 = .ok (.istore_n 3, 1) := by decide +kernel
theorem dX3_lost_7 : decode cX3_lost 7 = .ok (.aload_n 0, 1) := by decide +kernel
theorem dX3_lost_8 : decode cX3_lost 8 = .ok (.iload_n 1, 1) := by decide +kernel
theorem dX3_lost_9 : decode cX3_lost 9 = .ok (.iload_n 3, 1) := by decide +kernel
theorem dX3_lost_10 : decode cX3_lost 10 = .ok (.invokevirtual 65, 3) := by decide +kernel
theorem dX3_lost_13 : decode cX3_lost 13 = .ok (.aload_n 0, 1) := by decide +kernel
theorem dX3_lost_14 : decode cX3_lost 14 = .ok (.iload_n 1, 1) := by decide +kernel
theorem dX3_lost_15 : decode cX3_lost 15 = .ok (.iload_n 3, 1) := by decide +kernel
theorem dX3_lost_16 : decode cX3_lost 16 = .ok (.iload_n 2, 1) := by decide +kernel
theorem dX3_lost_17 : decode cX3_lost 17 = .ok (.iconst (-1), 1) := by decide +kernel
theorem dX3_lost_18 : decode cX3_lost 18 = .ok (.ixor, 1) := by decide +kernel
theorem dX3_lost_19 : decode cX3_lost 19 = .ok (.iand, 1) := by decide +kernel
theorem dX3_lost_20 : decode cX3_lost 20 = .ok (.invokevirtual 65, 3) := by decide +kernel
theorem dX3_lost_23 : decode cX3_lost 23 = .ok (.isub, 1) := by decide +kernel
theorem dX3_lost_24 : decode cX3_lost 24 = .ok (.ireturn, 1) := by decide +kernel
set_option maxRecDepth 20000 in
theorem ggX3_leakageOf_X3_lost : GoodIn wsX3_leakageOf wsX3_lost := goodIn_r _ [5, 6, 7, 8, 4, 9, 10, 11, 12, 13, 14, 15, 16, 17, 18, 19, 20, 21, 22, 23, 24] (by decide +kernel) (by decide +kernel)
set_option maxRecDepth 20000 in
theorem gX3_leakageOf_X3_lost : GoodIn wsX3_leakageOf (wsV RX3 93 RX3 yX3_lost wsX3_lost) := goodIn_app (goodIn_of _ (by decide +kernel)) ggX3_leakageOf_X3_lost
theorem dX3_leakageOf_0 : decode cX3_leakageOf 0 = .ok (.aload_n 0, 1) := by decide +kernel
theorem dX3_leakageOf_1 : decode cX3_leakageOf 1 = .ok (.iconst 2, 1) := by decide +kernel
theorem dX3_leakageOf_2 : decode cX3_leakageOf 2 = .ok (.iload_n 1, 1) := by decide +kernel
theorem dX3_leakageOf_3 : decode cX3_leakageOf 3 = .ok (.invokevirtual 93, 3) := by decide +kernel
theorem dX3_leakageOf_6 : decode cX3_leakageOf 6 = .ok (.aload_n 0, 1) := by decide +kernel
theorem dX3_leakageOf_7 : decode cX3_leakageOf 7 = .ok (.iconst 1, 1) := by decide +kernel
theorem dX3_leakageOf_8 : decode cX3_leakageOf 8 = .ok (.iload_n 1, 1) := by decide +kernel
theorem dX3_leakageOf_9 : decode cX3_leakageOf 9 = .ok (.invokevirtual 93, 3) := by decide +kernel
theorem dX3_leakageOf_12 : decode cX3_leakageOf 12 = .ok (.isub, 1) := by decide +kernel
theorem dX3_leakageOf_13 : decode cX3_leakageOf 13 = .ok (.ireturn, 1) := by decide +kernel
set_option maxRecDepth 20000 in
theorem ggX3_leakage_X3_isWord : GoodIn wsX3_leakage wsX3_isWord := goodIn_r _ [5, 6, 7, 8, 4, 9, 10, 11, 12, 13, 32, 33, 34, 35, 36, 37, 38, 39, 40] (by decide +kernel) (by decide +kernel)
set_option maxRecDepth 20000 in
theorem gX3_leakage_X3_isWord : GoodIn wsX3_leakage (wsV RX3 51 RX3 yX3_isWord wsX3_isWord) := goodIn_app (goodIn_of _ (by decide +kernel)) ggX3_leakage_X3_isWord
set_option maxRecDepth 20000 in
theorem ggX3_leakage_X3_leakageOf : GoodIn wsX3_leakage wsX3_leakageOf := goodIn_r _ [17, 18, 19, 20, 4, 21, 6, 7, 8, 9, 10, 22, 23, 24, 25, 26, 32, 33, 34, 35, 36, 37, 38, 39, 40] (by decide +kernel) (by decide +kernel)
set_option maxRecDepth 20000 in
theorem gX3_leakage_X3_leakageOf : GoodIn wsX3_leakage (wsV RX3 96 RX3 yX3_leakageOf wsX3_leakageOf) := goodIn_app (goodIn_of _ (by decide +kernel)) ggX3_leakage_X3_leakageOf
set_option maxRecDepth 20000 in
theorem ggX3_leakage_X3_fails : GoodIn wsX3_leakage wsX3_fails := goodIn_r _ [30, 31, 32, 33, 34, 35, 36, 37, 38, 39, 40] (by decide +kernel) (by decide +kernel)
set_option maxRecDepth 20000 in
theorem gX3_leakage_X3_fails : GoodIn wsX3_leakage (wsV RX3 44 RX3 yX3_fails wsX3_fails) := goodIn_app (goodIn_of _ (by decide +kernel)) ggX3_leakage_X3_fails
theorem dX3_leakage_0 : decode cX3_leakage 0 = .ok (.aload_n 0, 1) := by decide +kernel
theorem dX3_leakage_1 : decode cX3_leakage 1 = .ok (.iload_n 1, 1) := by decide +kernel
theorem dX3_leakage_2 : decode cX3_leakage 2 = .ok (.invokevirtual 51, 3) := by decide +kernel
theorem dX3_leakage_5 : decode cX3_leakage 5 = .ok (.ifCond .eq 11, 3) := by decide +kernel
theorem dX3_leakage_8 : decode cX3_leakage 8 = .ok (.aload_n 0, 1) := by decide +kernel
theorem dX3_leakage_9 : decode cX3_leakage 9 = .ok (.iload_n 1, 1) := by decide +kernel
theorem dX3_leakage_10 : decode cX3_leakage 10 = .ok (.invokevirtual 96, 3) := by decide +kernel
theorem dX3_leakage_13 : decode cX3_leakage 13 = .ok (.goto 9, 3) := by decide +kernel
theorem dX3_leakage_16 : decode cX3_leakage 16 = .ok (.aload_n 0, 1) := by decide +kernel
theorem dX3_leakage_17 : decode cX3_leakage 17 = .ok (.bipush (-2), 2) := by decide +kernel
theorem dX3_leakage_19 : decode cX3_leakage 19 = .ok (.invokevirtual 44, 3) := by decide +kernel
theorem dX3_leakage_22 : decode cX3_leakage 22 = .ok (.ireturn, 1) := by decide +kernel
set_option maxRecDepth 20000 in
theorem ggX3_worstOf_X3_words : GoodIn wsX3_worstOf wsX3_words := goodIn_r _ [5, 6, 23, 24, 25, 26, 27, 28, 29, 30, 31] (by decide +kernel) (by decide +kernel)
set_option maxRecDepth 20000 in
theorem gX3_worstOf_X3_words : GoodIn wsX3_worstOf (wsV RX3 32 RX3 yX3_words wsX3_words) := goodIn_app (goodIn_of _ (by decide +kernel)) ggX3_worstOf_X3_words
set_option maxRecDepth 20000 in
theorem ggX3_worstOf_X3_ones : GoodIn wsX3_worstOf wsX3_ones := goodIn_r _ [9] (by decide +kernel) (by decide +kernel)
set_option maxRecDepth 20000 in
theorem gX3_worstOf_X3_ones : GoodIn wsX3_worstOf (va_wsS RX3 69 yX3_ones wsX3_ones) := goodIn_app (goodIn_of _ (by decide +kernel)) ggX3_worstOf_X3_ones
set_option maxRecDepth 20000 in
theorem ggX3_worstOf_X3_leakageOf : GoodIn wsX3_worstOf wsX3_leakageOf := goodIn_r _ [13, 14, 15, 16, 4, 17, 1, 2, 3, 5, 6, 18, 19, 20, 21, 22, 23, 24, 25, 26, 27, 28, 29, 30, 31] (by decide +kernel) (by decide +kernel)
set_option maxRecDepth 20000 in
theorem gX3_worstOf_X3_leakageOf : GoodIn wsX3_worstOf (wsV RX3 96 RX3 yX3_leakageOf wsX3_leakageOf) := goodIn_app (goodIn_of _ (by decide +kernel)) ggX3_worstOf_X3_leakageOf
theorem dX3_worstOf_0 : decode cX3_worstOf 0 = .ok (.iconst (-1), 1) := by decide +kernel
theorem dX3_worstOf_1 : decode cX3_worstOf 1 = .ok (.istore_n 2, 1) := by decide +kernel
theorem dX3_worstOf_2 : decode cX3_worstOf 2 = .ok (.iconst (-1), 1) := by decide +kernel
theorem dX3_worstOf_3 : decode cX3_worstOf 3 = .ok (.istore_n 3, 1) := by decide +kernel
theorem dX3_worstOf_4 : decode cX3_worstOf 4 = .ok (.iconst 0, 1) := by decide +kernel
theorem dX3_worstOf_5 : decode cX3_worstOf 5 = .ok (.istore 4, 2) := by decide +kernel
theorem dX3_worstOf_7 : decode cX3_worstOf 7 = .ok (.iload 4, 2) := by decide +kernel
theorem dX3_worstOf_9 : decode cX3_worstOf 9 = .ok (.aload_n 0, 1) := by decide +kernel
theorem dX3_worstOf_10 : decode cX3_worstOf 10 = .ok (.invokevirtual 32, 3) := by decide +kernel
theorem dX3_worstOf_13 : decode cX3_worstOf 13 = .ok (.if_icmp .ge 56, 3) := by decide +kernel
theorem dX3_worstOf_16 : decode cX3_worstOf 16 = .ok (.iload 4, 2) := by decide +kernel
theorem dX3_worstOf_18 : decode cX3_worstOf 18 = .ok (.invokestatic 69, 3) := by decide +kernel
theorem dX3_worstOf_21 : decode cX3_worstOf 21 = .ok (.iload_n 1, 1) := by decide +kernel
theorem dX3_worstOf_22 : decode cX3_worstOf 22 = .ok (.if_icmp .ne 12, 3) := by decide +kernel
theorem dX3_worstOf_25 : decode cX3_worstOf 25 = .ok (.aload_n 0, 1) := by decide +kernel
theorem dX3_worstOf_26 : decode cX3_worstOf 26 = .ok (.iload 4, 2) := by decide +kernel
theorem dX3_worstOf_28 : decode cX3_worstOf 28 = .ok (.invokevirtual 96, 3) := by decide +kernel
theorem dX3_worstOf_31 : decode cX3_worstOf 31 = .ok (.goto 4, 3) := by decide +kernel
theorem dX3_worstOf_34 : decode cX3_worstOf 34 = .ok (.iconst (-1), 1) := by decide +kernel
theorem dX3_worstOf_35 : decode cX3_worstOf 35 = .ok (.istore 5, 2) := by decide +kernel
theorem dX3_worstOf_37 : decode cX3_worstOf 37 = .ok (.iload 5, 2) := by decide +kernel
theorem dX3_worstOf_39 : decode cX3_worstOf 39 = .ok (.iload_n 3, 1) := by decide +kernel
theorem dX3_worstOf_40 : decode cX3_worstOf 40 = .ok (.if_icmp .le 8, 3) := by decide +kernel
theorem dX3_worstOf_43 : decode cX3_worstOf 43 = .ok (.iload 4, 2) := by decide +kernel
theorem dX3_worstOf_45 : decode cX3_worstOf 45 = .ok (.goto 4, 3) := by decide +kernel
theorem dX3_worstOf_48 : decode cX3_worstOf 48 = .ok (.iload_n 2, 1) := by decide +kernel
theorem dX3_worstOf_49 : decode cX3_worstOf 49 = .ok (.istore_n 2, 1) := by decide +kernel
theorem dX3_worstOf_50 : decode cX3_worstOf 50 = .ok (.iload 5, 2) := by decide +kernel
theorem dX3_worstOf_52 : decode cX3_worstOf 52 = .ok (.iload_n 3, 1) := by decide +kernel
theorem dX3_worstOf_53 : decode cX3_worstOf 53 = .ok (.if_icmp .le 8, 3) := by decide +kernel
theorem dX3_worstOf_56 : decode cX3_worstOf 56 = .ok (.iload 5, 2) := by decide +kernel
theorem dX3_worstOf_58 : decode cX3_worstOf 58 = .ok (.goto 4, 3) := by decide +kernel
theorem dX3_worstOf_61 : decode cX3_worstOf 61 = .ok (.iload_n 3, 1) := by decide +kernel
theorem dX3_worstOf_62 : decode cX3_worstOf 62 = .ok (.istore_n 3, 1) := by decide +kernel
theorem dX3_worstOf_63 : decode cX3_worstOf 63 = .ok (.iinc 4 1, 3) := by decide +kernel
theorem dX3_worstOf_66 : decode cX3_worstOf 66 = .ok (.goto (-59), 3) := by decide +kernel
theorem dX3_worstOf_69 : decode cX3_worstOf 69 = .ok (.iload_n 2, 1) := by decide +kernel
theorem dX3_worstOf_70 : decode cX3_worstOf 70 = .ok (.ireturn, 1) := by decide +kernel
set_option maxRecDepth 20000 in
theorem ggX3_isSize_X3_within : GoodIn wsX3_isSize wsX3_within := goodIn_r _ [5] (by decide +kernel) (by decide +kernel)
set_option maxRecDepth 20000 in
theorem gX3_isSize_X3_within : GoodIn wsX3_isSize (va_wsS RX3 36 yX3_within wsX3_within) := goodIn_app (goodIn_of _ (by decide +kernel)) ggX3_isSize_X3_within
theorem dX3_isSize_0 : decode cX3_isSize 0 = .ok (.iload_n 1, 1) := by decide +kernel
theorem dX3_isSize_1 : decode cX3_isSize 1 = .ok (.iconst 0, 1) := by decide +kernel
theorem dX3_isSize_2 : decode cX3_isSize 2 = .ok (.aload_n 0, 1) := by decide +kernel
theorem dX3_isSize_3 : decode cX3_isSize 3 = .ok (.getfield 7, 3) := by decide +kernel
theorem dX3_isSize_6 : decode cX3_isSize 6 = .ok (.iconst 0, 1) := by decide +kernel
theorem dX3_isSize_7 : decode cX3_isSize 7 = .ok (.iaload, 1) := by decide +kernel
theorem dX3_isSize_8 : decode cX3_isSize 8 = .ok (.invokestatic 36, 3) := by decide +kernel
theorem dX3_isSize_11 : decode cX3_isSize 11 = .ok (.ireturn, 1) := by decide +kernel
set_option maxRecDepth 20000 in
theorem ggX3_worstLeakage_X3_isSize : GoodIn wsX3_worstLeakage wsX3_isSize := goodIn_r _ [5, 6, 7, 8, 4, 9, 39, 40, 41, 42, 43, 44, 45, 46, 47] (by decide +kernel) (by decide +kernel)
set_option maxRecDepth 20000 in
theorem gX3_worstLeakage_X3_isSize : GoodIn wsX3_worstLeakage (wsV RX3 99 RX3 yX3_isSize wsX3_isSize) := goodIn_app (goodIn_of _ (by decide +kernel)) ggX3_worstLeakage_X3_isSize
set_option maxRecDepth 20000 in
theorem ggX3_worstLeakage_X3_worstOf : GoodIn wsX3_worstLeakage wsX3_worstOf := goodIn_r _ [13, 14, 15, 16, 4, 17, 6, 18, 19, 20, 21, 22, 23, 24, 25, 26, 27, 28, 29, 30, 31, 32, 33, 39, 40, 41, 42, 43, 44, 45, 46, 47] (by decide +kernel) (by decide +kernel)
set_option maxRecDepth 20000 in
theorem gX3_worstLeakage_X3_worstOf : GoodIn wsX3_worstLeakage (wsV RX3 102 RX3 yX3_worstOf wsX3_worstOf) := goodIn_app (goodIn_of _ (by decide +kernel)) ggX3_worstLeakage_X3_worstOf
set_option maxRecDepth 20000 in
theorem ggX3_worstLeakage_X3_leakageOf : GoodIn wsX3_worstLeakage wsX3_leakageOf := goodIn_r _ [24, 25, 26, 27, 4, 28, 14, 15, 16, 17, 6, 29, 30, 31, 32, 33, 39, 40, 41, 42, 43, 44, 45, 46, 47] (by decide +kernel) (by decide +kernel)
set_option maxRecDepth 20000 in
theorem gX3_worstLeakage_X3_leakageOf : GoodIn wsX3_worstLeakage (wsV RX3 96 RX3 yX3_leakageOf wsX3_leakageOf) := goodIn_app (goodIn_of _ (by decide +kernel)) ggX3_worstLeakage_X3_leakageOf
