theorem dX0_extend_14 : decode cX0_extend 14 = .ok (.aload_n 0, 1) := by decide +kernel
theorem dX0_extend_15 : decode cX0_extend 15 = .ok (.getfield 9, 3) := by decide +kernel
theorem dX0_extend_18 : decode cX0_extend 18 = .ok (.iload_n 3, 1) := by decide +kernel
theorem dX0_extend_19 : decode cX0_extend 19 = .ok (.iaload, 1) := by decide +kernel
theorem dX0_extend_20 : decode cX0_extend 20 = .ok (.ixor, 1) := by decide +kernel
theorem dX0_extend_21 : decode cX0_extend 21 = .ok (.invokestatic 19, 3) := by decide +kernel
theorem dX0_extend_24 : decode cX0_extend 24 = .ok (.istore_n 2, 1) := by decide +kernel
theorem dX0_extend_25 : decode cX0_extend 25 = .ok (.iinc 3 1, 3) := by decide +kernel
theorem dX0_extend_28 : decode cX0_extend 28 = .ok (.goto (-24), 3) := by decide +kernel
theorem dX0_extend_31 : decode cX0_extend 31 = .ok (.iload_n 2, 1) := by decide +kernel
theorem dX0_extend_32 : decode cX0_extend 32 = .ok (.ifCond .eq 12, 3) := by decide +kernel
theorem dX0_extend_35 : decode cX0_extend 35 = .ok (.aload_n 0, 1) := by decide +kernel
theorem dX0_extend_36 : decode cX0_extend 36 = .ok (.getfield 15, 3) := by decide +kernel
theorem dX0_extend_39 : decode cX0_extend 39 = .ok (.bipush 6, 2) := by decide +kernel
theorem dX0_extend_41 : decode cX0_extend 41 = .ok (.if_icmp .lt 5, 3) := by decide +kernel
theorem dX0_extend_44 : decode cX0_extend 44 = .ok (.iconst 0, 1) := by decide +kernel
theorem dX0_extend_45 : decode cX0_extend 45 = .ok (.ireturn, 1) := by decide +kernel
theorem dX0_extend_46 : decode cX0_extend 46 = .ok (.aload_n 0, 1) := by decide +kernel
theorem dX0_extend_47 : decode cX0_extend 47 = .ok (.getfield 9, 3) := by decide +kernel
theorem dX0_extend_50 : decode cX0_extend 50 = .ok (.aload_n 0, 1) := by decide +kernel
theorem dX0_extend_51 : decode cX0_extend 51 = .ok (.getfield 15, 3) := by decide +kernel
theorem dX0_extend_54 : decode cX0_extend 54 = .ok (.iload_n 2, 1) := by decide +kernel
theorem dX0_extend_55 : decode cX0_extend 55 = .ok (.iastore, 1) := by decide +kernel
theorem dX0_extend_56 : decode cX0_extend 56 = .ok (.aload_n 0, 1) := by decide +kernel
theorem dX0_extend_57 : decode cX0_extend 57 = .ok (.dup, 1) := by decide +kernel
theorem dX0_extend_58 : decode cX0_extend 58 = .ok (.getfield 15, 3) := by decide +kernel
theorem dX0_extend_61 : decode cX0_extend 61 = .ok (.iconst 1, 1) := by decide +kernel
theorem dX0_extend_62 : decode cX0_extend 62 = .ok (.iadd, 1) := by decide +kernel
theorem dX0_extend_63 : decode cX0_extend 63 = .ok (.putfield 15, 3) := by decide +kernel
theorem dX0_extend_66 : decode cX0_extend 66 = .ok (.iconst 1, 1) := by decide +kernel
theorem dX0_extend_67 : decode cX0_extend 67 = .ok (.ireturn, 1) := by decide +kernel
theorem dX1_init_0 : decode cX1_init 0 = .ok (.aload_n 0, 1) := by decide +kernel
theorem dX1_init_1 : decode cX1_init 1 = .ok (.invokespecial 3, 3) := by decide +kernel
theorem dX1_init_4 : decode cX1_init 4 = .ok (.aload_n 0, 1) := by decide +kernel
theorem dX1_init_5 : decode cX1_init 5 = .ok (.bipush 6, 2) := by decide +kernel
theorem dX1_init_7 : decode cX1_init 7 = .ok (.putfield 9, 3) := by decide +kernel
theorem dX1_init_10 : decode cX1_init 10 = .ok (.aload_n 0, 1) := by decide +kernel
theorem dX1_init_11 : decode cX1_init 11 = .ok (.iconst 0, 1) := by decide +kernel
theorem dX1_init_12 : decode cX1_init 12 = .ok (.putfield 15, 3) := by decide +kernel
theorem dX1_init_15 : decode cX1_init 15 = .ok (.aload_n 0, 1) := by decide +kernel
theorem dX1_init_16 : decode cX1_init 16 = .ok (.bipush 6, 2) := by decide +kernel
theorem dX1_init_18 : decode cX1_init 18 = .ok (.newarray .int, 2) := by decide +kernel
theorem dX1_init_20 : decode cX1_init 20 = .ok (.putfield 18, 3) := by decide +kernel
theorem dX1_init_23 : decode cX1_init 23 = .ok (.aload_n 0, 1) := by decide +kernel
theorem dX1_init_24 : decode cX1_init 24 = .ok (.bipush 6, 2) := by decide +kernel
theorem dX1_init_26 : decode cX1_init 26 = .ok (.newarray .boolean, 2) := by decide +kernel
theorem dX1_init_28 : decode cX1_init 28 = .ok (.putfield 22, 3) := by decide +kernel
theorem dX1_init_31 : decode cX1_init 31 = .ok (.return_, 1) := by decide +kernel
theorem dX1_put_0 : decode cX1_put 0 = .ok (.iload_n 1, 1) := by decide +kernel
theorem dX1_put_1 : decode cX1_put 1 = .ok (.ifCond .lt 23, 3) := by decide +kernel
theorem dX1_put_4 : decode cX1_put 4 = .ok (.iload_n 1, 1) := by decide +kernel
theorem dX1_put_5 : decode cX1_put 5 = .ok (.bipush 6, 2) := by decide +kernel
theorem dX1_put_7 : decode cX1_put 7 = .ok (.if_icmp .ge 17, 3) := by decide +kernel
theorem dX1_put_10 : decode cX1_put 10 = .ok (.aload_n 0, 1) := by decide +kernel
theorem dX1_put_11 : decode cX1_put 11 = .ok (.getfield 18, 3) := by decide +kernel
theorem dX1_put_14 : decode cX1_put 14 = .ok (.iload_n 1, 1) := by decide +kernel
theorem dX1_put_15 : decode cX1_put 15 = .ok (.iload_n 2, 1) := by decide +kernel
theorem dX1_put_16 : decode cX1_put 16 = .ok (.iastore, 1) := by decide +kernel
theorem dX1_put_17 : decode cX1_put 17 = .ok (.aload_n 0, 1) := by decide +kernel
theorem dX1_put_18 : decode cX1_put 18 = .ok (.getfield 22, 3) := by decide +kernel
theorem dX1_put_21 : decode cX1_put 21 = .ok (.iload_n 1, 1) := by decide +kernel
theorem dX1_put_22 : decode cX1_put 22 = .ok (.iload_n 3, 1) := by decide +kernel
theorem dX1_put_23 : decode cX1_put 23 = .ok (.bastore, 1) := by decide +kernel
theorem dX1_put_24 : decode cX1_put 24 = .ok (.return_, 1) := by decide +kernel
theorem dX1_copyFrom_0 : decode cX1_copyFrom 0 = .ok (.aload_n 0, 1) := by decide +kernel
theorem dX1_copyFrom_1 : decode cX1_copyFrom 1 = .ok (.aload_n 1, 1) := by decide +kernel
theorem dX1_copyFrom_2 : decode cX1_copyFrom 2 = .ok (.getfield 9, 3) := by decide +kernel
theorem dX1_copyFrom_5 : decode cX1_copyFrom 5 = .ok (.putfield 9, 3) := by decide +kernel
theorem dX1_copyFrom_8 : decode cX1_copyFrom 8 = .ok (.aload_n 0, 1) := by decide +kernel
theorem dX1_copyFrom_9 : decode cX1_copyFrom 9 = .ok (.aload_n 1, 1) := by decide +kernel
theorem dX1_copyFrom_10 : decode cX1_copyFrom 10 = .ok (.getfield 15, 3) := by decide +kernel
theorem dX1_copyFrom_13 : decode cX1_copyFrom 13 = .ok (.putfield 15, 3) := by decide +kernel
theorem dX1_copyFrom_16 : decode cX1_copyFrom 16 = .ok (.iconst 0, 1) := by decide +kernel
theorem dX1_copyFrom_17 : decode cX1_copyFrom 17 = .ok (.istore_n 2, 1) := by decide +kernel
theorem dX1_copyFrom_18 : decode cX1_copyFrom 18 = .ok (.iload_n 2, 1) := by decide +kernel
theorem dX1_copyFrom_19 : decode cX1_copyFrom 19 = .ok (.bipush 6, 2) := by decide +kernel
theorem dX1_copyFrom_21 : decode cX1_copyFrom 21 = .ok (.if_icmp .ge 33, 3) := by decide +kernel
theorem dX1_copyFrom_24 : decode cX1_copyFrom 24 = .ok (.aload_n 0, 1) := by decide +kernel
theorem dX1_copyFrom_25 : decode cX1_copyFrom 25 = .ok (.getfield 18, 3) := by decide +kernel
theorem dX1_copyFrom_28 : decode cX1_copyFrom 28 = .ok (.iload_n 2, 1) := by decide +kernel
theorem dX1_copyFrom_29 : decode cX1_copyFrom 29 = .ok (.aload_n 1, 1) := by decide +kernel
theorem dX1_copyFrom_30 : decode cX1_copyFrom 30 = .ok (.getfield 18, 3) := by decide +kernel
theorem dX1_copyFrom_33 : decode cX1_copyFrom 33 = .ok (.iload_n 2, 1) := by decide +kernel
theorem dX1_copyFrom_34 : decode cX1_copyFrom 34 = .ok (.iaload, 1) := by decide +kernel
theorem dX1_copyFrom_35 : decode cX1_copyFrom 35 = .ok (.iastore, 1) := by decide +kernel
theorem dX1_copyFrom_36 : decode cX1_copyFrom 36 = .ok (.aload_n 0, 1) := by decide +kernel
theorem dX1_copyFrom_37 : decode cX1_copyFrom 37 = .ok (.getfield 22, 3) := by decide +kernel
theorem dX1_copyFrom_40 : decode cX1_copyFrom 40 = .ok (.iload_n 2, 1) := by decide +kernel
theorem dX1_copyFrom_41 : decode cX1_copyFrom 41 = .ok (.aload_n 1, 1) := by decide +kernel
theorem dX1_copyFrom_42 : decode cX1_copyFrom 42 = .ok (.getfield 22, 3) := by decide +kernel
theorem dX1_copyFrom_45 : decode cX1_copyFrom 45 = .ok (.iload_n 2, 1) := by decide +kernel
theorem dX1_copyFrom_46 : decode cX1_copyFrom 46 = .ok (.baload, 1) := by decide +kernel
theorem dX1_copyFrom_47 : decode cX1_copyFrom 47 = .ok (.bastore, 1) := by decide +kernel
theorem dX1_copyFrom_48 : decode cX1_copyFrom 48 = .ok (.iinc 2 1, 3) := by decide +kernel
theorem dX1_copyFrom_51 : decode cX1_copyFrom 51 = .ok (.goto (-33), 3) := by decide +kernel
theorem dX1_copyFrom_54 : decode cX1_copyFrom 54 = .ok (.return_, 1) := by decide +kernel
set_option maxRecDepth 20000 in
theorem ggX2_init_X1_init : GoodIn wsX2_init wsX1_init := goodIn_r _ [17, 18, 2, 3, 19, 20, 10, 21, 22, 23, 29, 30, 31, 32] (by decide +kernel) (by decide +kernel)
set_option maxRecDepth 20000 in
theorem gX2_init_X1_init_n11 : GoodIn wsX2_init (wsX1_init) := ggX2_init_X1_init
set_option maxRecDepth 20000 in
theorem ggX2_init_X0_init : GoodIn wsX2_init wsX0_init := goodIn_r _ [25, 26, 2, 3, 10, 27, 28, 38, 39] (by decide +kernel) (by decide +kernel)
set_option maxRecDepth 20000 in
theorem gX2_init_X0_init_n30 : GoodIn wsX2_init (wsX0_init) := ggX2_init_X0_init
theorem dX2_init_0 : decode cX2_init 0 = .ok (.aload_n 0, 1) := by decide +kernel
theorem dX2_init_1 : decode cX2_init 1 = .ok (.invokespecial 3, 3) := by decide +kernel
theorem dX2_init_4 : decode cX2_init 4 = .ok (.aload_n 0, 1) := by decide +kernel
theorem dX2_init_5 : decode cX2_init 5 = .ok (.new 9, 3) := by decide +kernel
theorem dX2_init_8 : decode cX2_init 8 = .ok (.dup, 1) := by decide +kernel
theorem dX2_init_9 : decode cX2_init 9 = .ok (.invokespecial 11, 3) := by decide +kernel
theorem dX2_init_12 : decode cX2_init 12 = .ok (.putfield 12, 3) := by decide +kernel
theorem dX2_init_15 : decode cX2_init 15 = .ok (.aload_n 0, 1) := by decide +kernel
theorem dX2_init_16 : decode cX2_init 16 = .ok (.iconst 4, 1) := by decide +kernel
theorem dX2_init_17 : decode cX2_init 17 = .ok (.anewarray 9, 3) := by decide +kernel
theorem dX2_init_20 : decode cX2_init 20 = .ok (.putfield 16, 3) := by decide +kernel
theorem dX2_init_23 : decode cX2_init 23 = .ok (.iconst 0, 1) := by decide +kernel
theorem dX2_init_24 : decode cX2_init 24 = .ok (.istore_n 1, 1) := by decide +kernel
theorem dX2_init_25 : decode cX2_init 25 = .ok (.iload_n 1, 1) := by decide +kernel
theorem dX2_init_26 : decode cX2_init 26 = .ok (.iconst 4, 1) := by decide +kernel
theorem dX2_init_27 : decode cX2_init 27 = .ok (.if_icmp .ge 22, 3) := by decide +kernel
theorem dX2_init_30 : decode cX2_init 30 = .ok (.aload_n 0, 1) := by decide +kernel
theorem dX2_init_31 : decode cX2_init 31 = .ok (.getfield 16, 3) := by decide +kernel
theorem dX2_init_34 : decode cX2_init 34 = .ok (.iload_n 1, 1) := by decide +kernel
theorem dX2_init_35 : decode cX2_init 35 = .ok (.new 9, 3) := by decide +kernel
theorem dX2_init_38 : decode cX2_init 38 = .ok (.dup, 1) := by decide +kernel
theorem dX2_init_39 : decode cX2_init 39 = .ok (.invokespecial 11, 3) := by decide +kernel
theorem dX2_init_42 : decode cX2_init 42 = .ok (.aastore, 1) := by decide +kernel
theorem dX2_init_43 : decode cX2_init 43 = .ok (.iinc 1 1, 3) := by decide +kernel
theorem dX2_init_46 : decode cX2_init 46 = .ok (.goto (-21), 3) := by decide +kernel
theorem dX2_init_49 : decode cX2_init 49 = .ok (.aload_n 0, 1) := by decide +kernel
theorem dX2_init_50 : decode cX2_init 50 = .ok (.iconst 0, 1) := by decide +kernel
theorem dX2_init_51 : decode cX2_init 51 = .ok (.putfield 20, 3) := by decide +kernel
theorem dX2_init_54 : decode cX2_init 54 = .ok (.aload_n 0, 1) := by decide +kernel
theorem dX2_init_55 : decode cX2_init 55 = .ok (.iconst 5, 1) := by decide +kernel
theorem dX2_init_56 : decode cX2_init 56 = .ok (.newarray .int, 2) := by decide +kernel
theorem dX2_init_58 : decode cX2_init 58 = .ok (.putfield 24, 3) := by decide +kernel
theorem dX2_init_61 : decode cX2_init 61 = .ok (.aload_n 0, 1) := by decide +kernel
theorem dX2_init_62 : decode cX2_init 62 = .ok (.new 28, 3) := by decide +kernel
theorem dX2_init_65 : decode cX2_init 65 = .ok (.dup, 1) := by decide +kernel
theorem dX2_init_66 : decode cX2_init 66 = .ok (.invokespecial 30, 3) := by decide +kernel
theorem dX2_init_69 : decode cX2_init 69 = .ok (.putfield 31, 3) := by decide +kernel
theorem dX2_init_72 : decode cX2_init 72 = .ok (.return_, 1) := by decide +kernel
set_option maxRecDepth 20000 in
theorem ggX2_setLength_X2_fail : GoodIn wsX2_setLength wsX2_fail := goodIn_r _ [6, 7, 26, 27, 28, 29, 30] (by decide +kernel) (by decide +kernel)
set_option maxRecDepth 20000 in
theorem gX2_setLength_X2_fail : GoodIn wsX2_setLength (wsV RX2 35 RX2 yX2_fail wsX2_fail) := goodIn_app (goodIn_of _ (by decide +kernel)) ggX2_setLength_X2_fail
set_option maxRecDepth 20000 in
theorem ggX2_setLength_X2_saveState : GoodIn wsX2_setLength wsX2_saveState := goodIn_r _ [11, 12, 13, 1, 14, 15, 16, 5, 17, 18, 19, 20, 21, 22, 23, 24, 25, 26, 27, 28, 29, 30, 31, 32, 33, 34] (by decide +kernel) (by decide +kernel)
set_option maxRecDepth 20000 in
theorem gX2_setLength_X2_saveState : GoodIn wsX2_setLength (wsV RX2 39 RX2 yX2_saveState wsX2_saveState) := goodIn_app (goodIn_of _ (by decide +kernel)) ggX2_setLength_X2_saveState
theorem dX2_setLength_0 : decode cX2_setLength 0 = .ok (.iload_n 1, 1) := by decide +kernel
theorem dX2_setLength_1 : decode cX2_setLength 1 = .ok (.iconst 1, 1) := by decide +kernel
theorem dX2_setLength_2 : decode cX2_setLength 2 = .ok (.if_icmp .lt 9, 3) := by decide +kernel
theorem dX2_setLength_5 : decode cX2_setLength 5 = .ok (.iload_n 1, 1) := by decide +kernel
theorem dX2_setLength_6 : decode cX2_setLength 6 = .ok (.bipush 8, 2) := by decide +kernel
theorem dX2_setLength_8 : decode cX2_setLength 8 = .ok (.if_icmp .le 10, 3) := by decide +kernel
theorem dX2_setLength_11 : decode cX2_setLength 11 = .ok (.aload_n 0, 1) := by decide +kernel
theorem dX2_setLength_12 : decode cX2_setLength 12 = .ok (.bipush (-2), 2) := by decide +kernel
theorem dX2_setLength_14 : decode cX2_setLength 14 = .ok (.invokevirtual 35, 3) := by decide +kernel
theorem dX2_setLength_17 : decode cX2_setLength 17 = .ok (.ireturn, 1) := by decide +kernel
theorem dX2_setLength_18 : decode cX2_setLength 18 = .ok (.aload_n 0, 1) := by decide +kernel
theorem dX2_setLength_19 : decode cX2_setLength 19 = .ok (.invokevirtual 39, 3) := by decide +kernel
theorem dX2_setLength_22 : decode cX2_setLength 22 = .ok (.aload_n 0, 1) := by decide +kernel
theorem dX2_setLength_23 : decode cX2_setLength 23 = .ok (.getfield 12, 3) := by decide +kernel
theorem dX2_setLength_26 : decode cX2_setLength 26 = .ok (.getfield 42, 3) := by decide +kernel
theorem dX2_setLength_29 : decode cX2_setLength 29 = .ok (.istore_n 2, 1) := by decide +kernel
theorem dX2_setLength_30 : decode cX2_setLength 30 = .ok (.aload_n 0, 1) := by decide +kernel
theorem dX2_setLength_31 : decode cX2_setLength 31 = .ok (.getfield 12, 3) := by decide +kernel
theorem dX2_setLength_34 : decode cX2_setLength 34 = .ok (.iload_n 1, 1) := by decide +kernel
theorem dX2_setLength_35 : decode cX2_setLength 35 = .ok (.putfield 42, 3) := by decide +kernel
theorem dX2_setLength_38 : decode cX2_setLength 38 = .ok (.aload_n 0, 1) := by decide +kernel
theorem dX2_setLength_39 : decode cX2_setLength 39 = .ok (.getfield 12, 3) := by decide +kernel
theorem dX2_setLength_42 : decode cX2_setLength 42 = .ok (.iconst 0, 1) := by decide +kernel
theorem dX2_setLength_43 : decode cX2_setLength 43 = .ok (.putfield 45, 3) := by decide +kernel
theorem dX2_setLength_46 : decode cX2_setLength 46 = .ok (.iload_n 2, 1) := by decide +kernel
theorem dX2_setLength_47 : decode cX2_setLength 47 = .ok (.ireturn, 1) := by decide +kernel
set_option maxRecDepth 20000 in
theorem ggX2_addRow_X2_isWord : GoodIn wsX2_addRow wsX2_isWord := goodIn_r _ [6, 7, 8, 9, 5, 10, 1, 37, 38, 39, 40, 41, 42, 43, 44, 45] (by decide +kernel) (by decide +kernel)
set_option maxRecDepth 20000 in
theorem gX2_addRow_X2_isWord : GoodIn wsX2_addRow (wsV RX2 48 RX2 yX2_isWord wsX2_isWord) := goodIn_app (goodIn_of _ (by decide +kernel)) ggX2_addRow_X2_isWord
set_option maxRecDepth 20000 in
theorem ggX2_addRow_X2_fail : GoodIn wsX2_addRow wsX2_fail := goodIn_r _ [14, 15, 37, 38, 39, 40, 41] (by decide +kernel) (by decide +kernel)
set_option maxRecDepth 20000 in
theorem gX2_addRow_X2_fail : GoodIn wsX2_addRow (wsV RX2 35 RX2 yX2_fail wsX2_fail) := goodIn_app (goodIn_of _ (by decide +kernel)) ggX2_addRow_X2_fail
set_option maxRecDepth 20000 in
theorem ggX2_addRow_X2_saveState : GoodIn wsX2_addRow wsX2_saveState := goodIn_r _ [19, 20, 21, 1, 22, 23, 24, 5, 25, 26, 27, 28, 29, 30, 31, 32, 33, 37, 38, 39, 40, 41, 42, 43, 44, 45] (by decide +kernel) (by decide +kernel)
set_option maxRecDepth 20000 in
theorem gX2_addRow_X2_saveState : GoodIn wsX2_addRow (wsV RX2 39 RX2 yX2_saveState wsX2_saveState) := goodIn_app (goodIn_of _ (by decide +kernel)) ggX2_addRow_X2_saveState
set_option maxRecDepth 20000 in
theorem ggX2_addRow_X1_put : GoodIn wsX2_addRow wsX1_put := goodIn_r _ [36, 32, 33, 42, 43, 44, 45] (by decide +kernel) (by decide +kernel)
set_option maxRecDepth 20000 in
theorem gX2_addRow_X1_put_n52 : GoodIn wsX2_addRow (wsX1_put) := ggX2_addRow_X1_put
theorem dX2_addRow_0 : decode cX2_addRow 0 = .ok (.iload_n 1, 1) := by decide +kernel
theorem dX2_addRow_1 : decode cX2_addRow 1 = .ok (.ifCond .eq 20, 3) := by decide +kernel
theorem dX2_addRow_4 : decode cX2_addRow 4 = .ok (.aload_n 0, 1) := by decide +kernel
theorem dX2_addRow_5 : decode cX2_addRow 5 = .ok (.iload_n 1, 1) := by decide +kernel
theorem dX2_addRow_6 : decode cX2_addRow 6 = .ok (.invokevirtual 48, 3) := by decide +kernel
theorem dX2_addRow_9 : decode cX2_addRow 9 = .ok (.ifCond .eq 12, 3) := by decide +kernel
theorem dX2_addRow_12 : decode cX2_addRow 12 = .ok (.iload_n 2, 1) := by decide +kernel
theorem dX2_addRow_13 : decode cX2_addRow 13 = .ok (.ifCond .lt 8, 3) := by decide +kernel
theorem dX2_addRow_16 : decode cX2_addRow 16 = .ok (.iload_n 2, 1) := by decide +kernel
theorem dX2_addRow_17 : decode cX2_addRow 17 = .ok (.iconst 1, 1) := by decide +kernel
theorem dX2_addRow_18 : decode cX2_addRow 18 = .ok (.if_icmp .le 10, 3) := by decide +kernel
theorem dX2_addRow_21 : decode cX2_addRow 21 = .ok (.aload_n 0, 1) := by decide +kernel
theorem dX2_addRow_22 : decode cX2_addRow 22 = .ok (.bipush (-2), 2) := by decide +kernel
theorem dX2_addRow_24 : decode cX2_addRow 24 = .ok (.invokevirtual 35, 3) := by decide +kernel
theorem dX2_addRow_27 : decode cX2_addRow 27 = .ok (.ireturn, 1) := by decide +kernel
theorem dX2_addRow_28 : decode cX2_addRow 28 = .ok (.aload_n 0, 1) := by decide +kernel
theorem dX2_addRow_29 : decode cX2_addRow 29 = .ok (.getfield 12, 3) := by decide +kernel
theorem dX2_addRow_32 : decode cX2_addRow 32 = .ok (.getfield 45, 3) := by decide +kernel
theorem dX2_addRow_35 : decode cX2_addRow 35 = .ok (.bipush 6, 2) := by decide +kernel
theorem dX2_addRow_37 : decode cX2_addRow 37 = .ok (.if_icmp .lt 10, 3) := by decide +kernel
theorem dX2_addRow_40 : decode cX2_addRow 40 = .ok (.aload_n 0, 1) := by decide +kernel
theorem dX2_addRow_41 : decode cX2_addRow 41 = .ok (.bipush (-4), 2) := by decide +kernel
theorem dX2_addRow_43 : decode cX2_addRow 43 = .ok (.invokevirtual 35, 3) := by decide +kernel
theorem dX2_addRow_46 : decode cX2_addRow 46 = .ok (.ireturn, 1) := by decide +kernel
theorem dX2_addRow_47 : decode cX2_addRow 47 = .ok (.aload_n 0, 1) := by decide +kernel
theorem dX2_addRow_48 : decode cX2_addRow 48 = .ok (.invokevirtual 39, 3) := by decide +kernel
theorem dX2_addRow_51 : decode cX2_addRow 51 = .ok (.aload_n 0, 1) := by decide +kernel
theorem dX2_addRow_52 : decode cX2_addRow 52 = .ok (.getfield 12, 3) := by decide +kernel
theorem dX2_addRow_55 : decode cX2_addRow 55 = .ok (.aload_n 0, 1) := by decide +kernel
theorem dX2_addRow_56 : decode cX2_addRow 56 = .ok (.getfield 12, 3) := by decide +kernel
theorem dX2_addRow_59 : decode cX2_addRow 59 = .ok (.getfield 45, 3) := by decide +kernel
theorem dX2_addRow_62 : decode cX2_addRow 62 = .ok (.iload_n 1, 1) := by decide +kernel
theorem dX2_addRow_63 : decode cX2_addRow 63 = .ok (.iload_n 2, 1) := by decide +kernel
theorem dX2_addRow_64 : decode cX2_addRow 64 = .ok (.iconst 1, 1) := by decide +kernel
theorem dX2_addRow_65 : decode cX2_addRow 65 = .ok (.if_icmp .ne 7, 3) := by decide +kernel
theorem dX2_addRow_68 : decode cX2_addRow 68 = .ok (.iconst 1, 1) := by decide +kernel
theorem dX2_addRow_69 : decode cX2_addRow 69 = .ok (.goto 4, 3) := by decide +kernel
theorem dX2_addRow_72 : decode cX2_addRow 72 = .ok (.iconst 0, 1) := by decide +kernel
theorem dX2_addRow_73 : decode cX2_addRow 73 = .ok (.invokevirtual 52, 3) := by decide +kernel
theorem dX2_addRow_76 : decode cX2_addRow 76 = .ok (.aload_n 0, 1) := by decide +kernel
theorem dX2_addRow_77 : decode cX2_addRow 77 = .ok (.getfield 12, 3) := by decide +kernel
theorem dX2_addRow_80 : decode cX2_addRow 80 = .ok (.dup, 1) := by decide +kernel
theorem dX2_addRow_81 : decode cX2_addRow 81 = .ok (.getfield 45, 3) := by decide +kernel
theorem dX2_addRow_84 : decode cX2_addRow 84 = .ok (.iconst 1, 1) := by decide +kernel
theorem dX2_addRow_85 : decode cX2_addRow 85 = .ok (.iadd, 1) := by decide +kernel
theorem dX2_addRow_86 : decode cX2_addRow 86 = .ok (.putfield 45, 3) := by decide +kernel
theorem dX2_addRow_89 : decode cX2_addRow 89 = .ok (.aload_n 0, 1) := by decide +kernel
theorem dX2_addRow_90 : decode cX2_addRow 90 = .ok (.getfield 12, 3) := by decide +kernel
theorem dX2_addRow_93 : decode cX2_addRow 93 = .ok (.getfield 45, 3) := by decide +kernel
theorem dX2_addRow_96 : decode cX2_addRow 96 = .ok (.iconst 1, 1) := by decide +kernel
theorem dX2_addRow_97 : decode cX2_addRow 97 = .ok (.isub, 1) := by decide +kernel
theorem dX2_addRow_98 : decode cX2_addRow 98 = .ok (.ireturn, 1) := by decide +kernel
set_option maxRecDepth 20000 in
theorem ggX2_removeRow_X2_isRowNumber : GoodIn wsX2_removeRow wsX2_isRowNumber := goodIn_r _ [6, 1, 33, 34, 35, 36, 37, 38, 39, 40, 41] (by decide +kernel) (by decide +kernel)
set_option maxRecDepth 20000 in
theorem gX2_removeRow_X2_isRowNumber : GoodIn wsX2_removeRow (wsV RX2 56 RX2 yX2_isRowNumber wsX2_isRowNumber) := goodIn_app (goodIn_of _ (by decide +kernel)) ggX2_removeRow_X2_isRowNumber
set_option maxRecDepth 20000 in
theorem ggX2_removeRow_X2_fail : GoodIn wsX2_removeRow wsX2_fail := goodIn_r _ [10, 11, 33, 34, 35, 36, 37] (by decide +kernel) (by decide +kernel)
set_option maxRecDepth 20000 in
theorem gX2_removeRow_X2_fail : GoodIn wsX2_removeRow (wsV RX2 35 RX2 yX2_fail wsX2_fail) := goodIn_app (goodIn_of _ (by decide +kernel)) ggX2_removeRow_X2_fail
set_option maxRecDepth 20000 in
theorem ggX2_removeRow_X2_saveState : GoodIn wsX2_removeRow wsX2_saveState := goodIn_r _ [15, 16, 17, 1, 18, 19, 20, 5, 21, 22, 23, 24, 25, 26, 27, 28, 29, 33, 34, 35, 36, 37, 38, 39, 40, 41] (by decide +kernel) (by decide +kernel)
set_option maxRecDepth 20000 in
theorem gX2_removeRow_X2_saveState : GoodIn wsX2_removeRow (wsV RX2 39 RX2 yX2_saveState wsX2_saveState) := goodIn_app (goodIn_of _ (by decide +kernel)) ggX2_removeRow_X2_saveState
set_option maxRecDepth 20000 in
theorem ggX2_removeRow_X1_put : GoodIn wsX2_removeRow wsX1_put := goodIn_r _ [32, 28, 29, 38, 39, 40, 41] (by decide +kernel) (by decide +kernel)
set_option maxRecDepth 20000 in
theorem gX2_removeRow_X1_put_n52 : GoodIn wsX2_removeRow (wsX1_put) := ggX2_removeRow_X1_put
theorem dX2_removeRow_0 : decode cX2_removeRow 0 = .ok (.aload_n 0, 1) := by decide +kernel
theorem dX2_removeRow_1 : decode cX2_removeRow 1 = .ok (.iload_n 1, 1) := by decide +kernel
theorem dX2_removeRow_2 : decode cX2_removeRow 2 = .ok (.invokevirtual 56, 3) := by decide +kernel
theorem dX2_removeRow_5 : decode cX2_removeRow 5 = .ok (.ifCond .ne 10, 3) := by decide +kernel
theorem dX2_removeRow_8 : decode cX2_removeRow 8 = .ok (.aload_n 0, 1) := by decide +kernel
theorem dX2_removeRow_9 : decode cX2_removeRow 9 = .ok (.bipush (-2), 2) := by decide +kernel
theorem dX2_removeRow_11 : decode cX2_removeRow 11 = .ok (.invokevirtual 35, 3) := by decide +kernel
theorem dX2_removeRow_14 : decode cX2_removeRow 14 = .ok (.ireturn, 1) := by decide +kernel
theorem dX2_removeRow_15 : decode cX2_removeRow 15 = .ok (.aload_n 0, 1) := by decide +kernel
theorem dX2_removeRow_16 : decode cX2_removeRow 16 = .ok (.invokevirtual 39, 3) := by decide +kernel
theorem dX2_removeRow_19 : decode cX2_removeRow 19 = .ok (.iload_n 1, 1) := by decide +kernel
theorem dX2_removeRow_20 : decode cX2_removeRow 20 = .ok (.iconst 1, 1) := by decide +kernel
theorem dX2_removeRow_21 : decode cX2_removeRow 21 = .ok (.iadd, 1) := by decide +kernel
theorem dX2_removeRow_22 : decode cX2_removeRow 22 = .ok (.istore_n 2, 1) := by decide +kernel
theorem dX2_removeRow_23 : decode cX2_removeRow 23 = .ok (.iload_n 2, 1) := by decide +kernel
theorem dX2_removeRow_24 : decode cX2_removeRow 24 = .ok (.aload_n 0, 1) := by decide +kernel
theorem dX2_removeRow_25 : decode cX2_removeRow 25 = .ok (.getfield 12, 3) := by decide +kernel
theorem dX2_removeRow_28 : decode cX2_removeRow 28 = .ok (.getfield 45, 3) := by decide +kernel
theorem dX2_removeRow_31 : decode cX2_removeRow 31 = .ok (.if_icmp .ge 37, 3) := by decide +kernel
theorem dX2_removeRow_34 : decode cX2_removeRow 34 = .ok (.aload_n 0, 1) := by decide +kernel
theorem dX2_removeRow_35 : decode cX2_removeRow 35 = .ok (.getfield 12, 3) := by decide +kernel
theorem dX2_removeRow_38 : decode cX2_removeRow 38 = .ok (.iload_n 2, 1) := by decide +kernel
theorem dX2_removeRow_39 : decode cX2_removeRow 39 = .ok (.iconst 1, 1) := by decide +kernel
theorem dX2_removeRow_40 : decode cX2_removeRow 40 = .ok (.isub, 1) := by decide +kernel
theorem dX2_removeRow_41 : decode cX2_removeRow 41 = .ok (.aload_n 0, 1) := by decide +kernel
theorem dX2_removeRow_42 : decode cX2_removeRow 42 = .ok (.getfield 12, 3) := by decide +kernel
theorem dX2_removeRow_45 : decode cX2_removeRow 45 = .ok (.getfield 59, 3) := by decide +kernel
theorem dX2_removeRow_48 : decode cX2_removeRow 48 = .ok (.iload_n 2, 1) := by decide +kernel
theorem dX2_removeRow_49 : decode cX2_removeRow 49 = .ok (.iaload, 1) := by decide +kernel
theorem dX2_removeRow_50 : decode cX2_removeRow 50 = .ok (.aload_n 0, 1) := by decide +kernel
theorem dX2_removeRow_51 : decode cX2_removeRow 51 = .ok (.getfield 12, 3) := by decide +kernel
theorem dX2_removeRow_54 : decode cX2_removeRow 54 = .ok (.getfield 62, 3) := by decide +kernel
theorem dX2_removeRow_57 : decode cX2_removeRow 57 = .ok (.iload_n 2, 1) := by decide +kernel
theorem dX2_removeRow_58 : decode cX2_removeRow 58 = .ok (.baload, 1) := by decide +kernel
theorem dX2_removeRow_59 : decode cX2_removeRow 59 = .ok (.invokevirtual 52, 3) := by decide +kernel
theorem dX2_removeRow_62 : decode cX2_removeRow 62 = .ok (.iinc 2 1, 3) := by decide +kernel
theorem dX2_removeRow_65 : decode cX2_removeRow 65 = .ok (.goto (-42), 3) := by decide +kernel
theorem dX2_removeRow_68 : decode cX2_removeRow 68 = .ok (.aload_n 0, 1) := by decide +kernel
theorem dX2_removeRow_69 : decode cX2_removeRow 69 = .ok (.getfield 12, 3) := by decide +kernel
theorem dX2_removeRow_72 : decode cX2_removeRow 72 = .ok (.dup, 1) := by decide +kernel
theorem dX2_removeRow_73 : decode cX2_removeRow 73 = .ok (.getfield 45, 3) := by decide +kernel
theorem dX2_removeRow_76 : decode cX2_removeRow 76 = .ok (.iconst 1, 1) := by decide +kernel
theorem dX2_removeRow_77 : decode cX2_removeRow 77 = .ok (.isub, 1) := by decide +kernel
theorem dX2_removeRow_78 : decode cX2_removeRow 78 = .ok (.putfield 45, 3) := by decide +kernel
theorem dX2_removeRow_81 : decode cX2_removeRow 81 = .ok (.aload_n 0, 1) := by decide +kernel
theorem dX2_removeRow_82 : decode cX2_removeRow 82 = .ok (.getfield 12, 3) := by decide +kernel
theorem dX2_removeRow_85 : decode cX2_removeRow 85 = .ok (.getfield 45, 3) := by decide +kernel
theorem dX2_removeRow_88 : decode cX2_removeRow 88 = .ok (.ireturn, 1) := by decide +kernel
set_option maxRecDepth 20000 in
theorem ggX2_removeDependentRows_X2_saveState : GoodIn wsX2_removeDependentRows wsX2_saveState := goodIn_r _ [7, 8, 9, 2, 10, 11, 12, 6, 13, 14, 15, 16, 17, 18, 19, 20, 21, 38, 39, 40, 41, 42, 43, 44, 45, 46] (by decide +kernel) (by decide +kernel)
set_option maxRecDepth 20000 in
theorem gX2_removeDependentRows_X2_saveState : GoodIn wsX2_removeDependentRows (wsV RX2 39 RX2 yX2_saveState wsX2_saveState) := goodIn_app (goodIn_of _ (by decide +kernel)) ggX2_removeDependentRows_X2_saveState
set_option maxRecDepth 20000 in
theorem ggX2_removeDependentRows_X0_clear : GoodIn wsX2_removeDependentRows wsX0_clear := goodIn_r _ [25, 26, 47, 48] (by decide +kernel) (by decide +kernel)
set_option maxRecDepth 20000 in
theorem gX2_removeDependentRows_X0_clear_n66 : GoodIn wsX2_removeDependentRows (wsX0_clear) := ggX2_removeDependentRows_X0_clear
set_option maxRecDepth 20000 in
theorem ggX2_removeDependentRows_X0_extend : GoodIn wsX2_removeDependentRows wsX0_extend := goodIn_r _ [29, 26, 30, 31, 32, 33, 34, 47, 48] (by decide +kernel) (by decide +kernel)
set_option maxRecDepth 20000 in
theorem gX2_removeDependentRows_X0_extend_n69 : GoodIn wsX2_removeDependentRows (wsX0_extend) := ggX2_removeDependentRows_X0_extend
set_option maxRecDepth 20000 in
theorem ggX2_removeDependentRows_X1_put : GoodIn wsX2_removeDependentRows wsX1_put := goodIn_r _ [37, 20, 21, 43, 44, 45, 46] (by decide +kernel) (by decide +kernel)
set_option maxRecDepth 20000 in
theorem gX2_removeDependentRows_X1_put_n52 : GoodIn wsX2_removeDependentRows (wsX1_put) := ggX2_removeDependentRows_X1_put
theorem dX2_removeDependentRows_0 : decode cX2_removeDependentRows 0 = .ok (.aload_n 0, 1) := by decide +kernel
theorem dX2_removeDependentRows_1 : decode cX2_removeDependentRows 1 = .ok (.invokevirtual 39, 3) := by decide +kernel
theorem dX2_removeDependentRows_4 : decode cX2_removeDependentRows 4 = .ok (.aload_n 0, 1) := by decide +kernel
theorem dX2_removeDependentRows_5 : decode cX2_removeDependentRows 5 = .ok (.getfield 31, 3) := by decide +kernel
theorem dX2_removeDependentRows_8 : decode cX2_removeDependentRows 8 = .ok (.invokevirtual 66, 3) := by decide +kernel
theorem dX2_removeDependentRows_11 : decode cX2_removeDependentRows 11 = .ok (.aload_n 0, 1) := by decide +kernel
theorem dX2_removeDependentRows_12 : decode cX2_removeDependentRows 12 = .ok (.getfield 12, 3) := by decide +kernel
theorem dX2_removeDependentRows_15 : decode cX2_removeDependentRows 15 = .ok (.getfield 45, 3) := by decide +kernel
theorem dX2_removeDependentRows_18 : decode cX2_removeDependentRows 18 = .ok (.istore_n 1, 1) := by decide +kernel
theorem dX2_removeDependentRows_19 : decode cX2_removeDependentRows 19 = .ok (.iconst 0, 1) := by decide +kernel
theorem dX2_removeDependentRows_20 : decode cX2_removeDependentRows 20 = .ok (.istore_n 2, 1) := by decide +kernel
theorem dX2_removeDependentRows_21 : decode cX2_removeDependentRows 21 = .ok (.iconst 0, 1) := by decide +kernel
theorem dX2_removeDependentRows_22 : decode cX2_removeDependentRows 22 = .ok (.istore_n 3, 1) := by decide +kernel
theorem dX2_removeDependentRows_23 : decode cX2_removeDependentRows 23 = .ok (.iload_n 3, 1) := by decide +kernel
theorem dX2_removeDependentRows_24 : decode cX2_removeDependentRows 24 = .ok (.iload_n 1, 1) := by decide +kernel
theorem dX2_removeDependentRows_25 : decode cX2_removeDependentRows 25 = .ok (.if_icmp .ge 57, 3) := by decide +kernel
theorem dX2_removeDependentRows_28 : decode cX2_removeDependentRows 28 = .ok (.aload_n 0, 1) := by decide +kernel
theorem dX2_removeDependentRows_29 : decode cX2_removeDependentRows 29 = .ok (.getfield 31, 3) := by decide +kernel
theorem dX2_removeDependentRows_32 : decode cX2_removeDependentRows 32 = .ok (.aload_n 0, 1) := by decide +kernel
theorem dX2_removeDependentRows_33 : decode cX2_removeDependentRows 33 = .ok (.getfield 12, 3) := by decide +kernel
theorem dX2_removeDependentRows_36 : decode cX2_removeDependentRows 36 = .ok (.getfield 59, 3) := by decide +kernel
theorem dX2_removeDependentRows_39 : decode cX2_removeDependentRows 39 = .ok (.iload_n 3, 1) := by decide +kernel
theorem dX2_removeDependentRows_40 : decode cX2_removeDependentRows 40 = .ok (.iaload, 1) := by decide +kernel
theorem dX2_removeDependentRows_41 : decode cX2_removeDependentRows 41 = .ok (.invokevirtual 69, 3) := by decide +kernel
theorem dX2_removeDependentRows_44 : decode cX2_removeDependentRows 44 = .ok (.ifCond .eq 32, 3) := by decide +kernel
theorem dX2_removeDependentRows_47 : decode cX2_removeDependentRows 47 = .ok (.aload_n 0, 1) := by decide +kernel
theorem dX2_removeDependentRows_48 : decode cX2_removeDependentRows 48 = .ok (.getfield 12, 3) := by decide +kernel
theorem dX2_removeDependentRows_51 : decode cX2_removeDependentRows 51 = .ok (.iload_n 2, 1) := by decide +kernel
theorem dX2_removeDependentRows_52 : decode cX2_removeDependentRows 52 = .ok (.aload_n 0, 1) := by decide +kernel
theorem dX2_removeDependentRows_53 : decode cX2_removeDependentRows 53 = .ok (.getfield 12, 3) := by decide +kernel
theorem dX2_removeDependentRows_56 : decode cX2_removeDependentRows 56 = .ok (.getfield 59, 3) := by decide +kernel
theorem dX2_removeDependentRows_59 : decode cX2_removeDependentRows 59 = .ok (.iload_n 3, 1) := by decide +kernel
theorem dX2_removeDependentRows_60 : decode cX2_removeDependentRows 60 = .ok (.iaload, 1) := by decide +kernel
theorem dX2_removeDependentRows_61 : decode cX2_removeDependentRows 61 = .ok (.aload_n 0, 1) := by decide +kernel
theorem dX2_removeDependentRows_62 : decode cX2_removeDependentRows 62 = .ok (.getfield 12, 3) := by decide +kernel
theorem dX2_removeDependentRows_65 : decode cX2_removeDependentRows 65 = .ok (.getfield 62, 3) := by decide +kernel
theorem dX2_removeDependentRows_68 : decode cX2_removeDependentRows 68 = .ok (.iload_n 3, 1) := by decide +kernel
theorem dX2_removeDependentRows_69 : decode cX2_removeDependentRows 69 = .ok (.baload, 1) := by decide +kernel
theorem dX2_removeDependentRows_70 : decode cX2_removeDependentRows 70 = .ok (.invokevirtual 52, 3) := by decide +kernel
theorem dX2_removeDependentRows_73 : decode cX2_removeDependentRows 73 = .ok (.iinc 2 1, 3) := by decide +kernel
theorem dX2_removeDependentRows_76 : decode cX2_removeDependentRows 76 = .ok (.iinc 3 1, 3) := by decide +kernel
theorem dX2_removeDependentRows_79 : decode cX2_removeDependentRows 79 = .ok (.goto (-56), 3) := by decide +kernel
theorem dX2_removeDependentRows_82 : decode cX2_removeDependentRows 82 = .ok (.aload_n 0, 1) := by decide +kernel
theorem dX2_removeDependentRows_83 : decode cX2_removeDependentRows 83 = .ok (.getfield 12, 3) := by decide +kernel
theorem dX2_removeDependentRows_86 : decode cX2_removeDependentRows 86 = .ok (.iload_n 2, 1) := by decide +kernel
theorem dX2_removeDependentRows_87 : decode cX2_removeDependentRows 87 = .ok (.putfield 45, 3) := by decide +kernel
theorem dX2_removeDependentRows_90 : decode cX2_removeDependentRows 90 = .ok (.iload_n 1, 1) := by decide +kernel
theorem dX2_removeDependentRows_91 : decode cX2_removeDependentRows 91 = .ok (.iload_n 2, 1) := by decide +kernel
theorem dX2_removeDependentRows_92 : decode cX2_removeDependentRows 92 = .ok (.isub, 1) := by decide +kernel
theorem dX2_removeDependentRows_93 : decode cX2_removeDependentRows 93 = .ok (.ireturn, 1) := by decide +kernel
set_option maxRecDepth 20000 in
theorem ggX2_row_X2_isRowNumber : GoodIn wsX2_row wsX2_isRowNumber := goodIn_r _ [6, 1, 12, 13, 14, 15, 16, 17, 18, 19, 20] (by decide +kernel) (by decide +kernel)
set_option maxRecDepth 20000 in
theorem gX2_row_X2_isRowNumber : GoodIn wsX2_row (wsV RX2 56 RX2 yX2_isRowNumber wsX2_isRowNumber) := goodIn_app (goodIn_of _ (by decide +kernel)) ggX2_row_X2_isRowNumber
set_option maxRecDepth 20000 in
theorem ggX2_row_X2_fail : GoodIn wsX2_row wsX2_fail := goodIn_r _ [10, 11, 12, 13, 14, 15, 16] (by decide +kernel) (by decide +kernel)
set_option maxRecDepth 20000 in
theorem gX2_row_X2_fail : GoodIn wsX2_row (wsV RX2 35 RX2 yX2_fail wsX2_fail) := goodIn_app (goodIn_of _ (by decide +kernel)) ggX2_row_X2_fail
theorem dX2_row_0 : decode cX2_row 0 = .ok (.aload_n 0, 1) := by decide +kernel
theorem dX2_row_1 : decode cX2_row 1 = .ok (.iload_n 1, 1) := by decide +kernel
theorem dX2_row_2 : decode cX2_row 2 = .ok (.invokevirtual 56, 3) := by decide +kernel
theorem dX2_row_5 : decode cX2_row 5 = .ok (.ifCond .ne 10, 3) := by decide +kernel
theorem dX2_row_8 : decode cX2_row 8 = .ok (.aload_n 0, 1) := by decide +kernel
theorem dX2_row_9 : decode cX2_row 9 = .ok (.bipush (-2), 2) := by decide +kernel
theorem dX2_row_11 : decode cX2_row 11 = .ok (.invokevirtual 35, 3) := by decide +kernel
theorem dX2_row_14 : decode cX2_row 14 = .ok (.ireturn, 1) := by decide +kernel
theorem dX2_row_15 : decode cX2_row 15 = .ok (.aload_n 0, 1) := by decide +kernel
theorem dX2_row_16 : decode cX2_row 16 = .ok (.getfield 12, 3) := by decide +kernel
theorem dX2_row_19 : decode cX2_row 19 = .ok (.getfield 59, 3) := by decide +kernel
theorem dX2_row_22 : decode cX2_row 22 = .ok (.iload_n 1, 1) := by decide +kernel
theorem dX2_row_23 : decode cX2_row 23 = .ok (.iaload, 1) := by decide +kernel
theorem dX2_row_24 : decode cX2_row 24 = .ok (.ireturn, 1) := by decide +kernel
set_option maxRecDepth 20000 in
theorem ggX2_isCheck_X2_isRowNumber : GoodIn wsX2_isCheck wsX2_isRowNumber := goodIn_r _ [6, 1, 12, 13, 14, 15, 16, 17, 18, 19, 20] (by decide +kernel) (by decide +kernel)
set_option maxRecDepth 20000 in
theorem gX2_isCheck_X2_isRowNumber : GoodIn wsX2_isCheck (wsV RX2 56 RX2 yX2_isRowNumber wsX2_isRowNumber) := goodIn_app (goodIn_of _ (by decide +kernel)) ggX2_isCheck_X2_isRowNumber
set_option maxRecDepth 20000 in
theorem ggX2_isCheck_X2_fail : GoodIn wsX2_isCheck wsX2_fail := goodIn_r _ [10, 11, 12, 13, 14, 15, 16] (by decide +kernel) (by decide +kernel)
set_option maxRecDepth 20000 in
theorem gX2_isCheck_X2_fail : GoodIn wsX2_isCheck (wsV RX2 35 RX2 yX2_fail wsX2_fail) := goodIn_app (goodIn_of _ (by decide +kernel)) ggX2_isCheck_X2_fail
theorem dX2_isCheck_0 : decode cX2_isCheck 0 = .ok (.aload_n 0, 1) := by decide +kernel
theorem dX2_isCheck_1 : decode cX2_isCheck 1 = .ok (.iload_n 1, 1) := by decide +kernel
theorem dX2_isCheck_2 : decode cX2_isCheck 2 = .ok (.invokevirtual 56, 3) := by decide +kernel
theorem dX2_isCheck_5 : decode cX2_isCheck 5 = .ok (.ifCond .ne 10, 3) := by decide +kernel
theorem dX2_isCheck_8 : decode cX2_isCheck 8 = .ok (.aload_n 0, 1) := by decide +kernel
theorem dX2_isCheck_9 : decode cX2_isCheck 9 = .ok (.bipush (-2), 2) := by decide +kernel
theorem dX2_isCheck_11 : decode cX2_isCheck 11 = .ok (.invokevirtual 35, 3) := by decide +kernel
theorem dX2_isCheck_14 : decode cX2_isCheck 14 = .ok (.ireturn, 1) := by decide +kernel
theorem dX2_isCheck_15 : decode cX2_isCheck 15 = .ok (.aload_n 0, 1) := by decide +kernel
theorem dX2_isCheck_16 : decode cX2_isCheck 16 = .ok (.getfield 12, 3) := by decide +kernel
theorem dX2_isCheck_19 : decode cX2_isCheck 19 = .ok (.getfield 62, 3) := by decide +kernel
theorem dX2_isCheck_22 : decode cX2_isCheck 22 = .ok (.iload_n 1, 1) := by decide +kernel
theorem dX2_isCheck_23 : decode cX2_isCheck 23 = .ok (.baload, 1) := by decide +kernel
theorem dX2_isCheck_24 : decode cX2_isCheck 24 = .ok (.ifCond .eq 7, 3) := by decide +kernel
theorem dX2_isCheck_27 : decode cX2_isCheck 27 = .ok (.iconst 1, 1) := by decide +kernel
theorem dX2_isCheck_28 : decode cX2_isCheck 28 = .ok (.goto 4, 3) := by decide +kernel
theorem dX2_isCheck_31 : decode cX2_isCheck 31 = .ok (.iconst 0, 1) := by decide +kernel
theorem dX2_isCheck_32 : decode cX2_isCheck 32 = .ok (.ireturn, 1) := by decide +kernel
set_option maxRecDepth 20000 in
theorem ggX2_rank_X2_fail : GoodIn wsX2_rank wsX2_fail := goodIn_r _ [5, 6, 34, 35, 36, 37, 38] (by decide +kernel) (by decide +kernel)
set_option maxRecDepth 20000 in
theorem gX2_rank_X2_fail : GoodIn wsX2_rank (wsV RX2 35 RX2 yX2_fail wsX2_fail) := goodIn_app (goodIn_of _ (by decide +kernel)) ggX2_rank_X2_fail
set_option maxRecDepth 20000 in
theorem ggX2_rank_X2_rankOfKind : GoodIn wsX2_rank wsX2_rankOfKind := goodIn_r _ [10, 11, 12, 13, 14, 15, 16, 17, 18, 19, 4, 20, 21, 22, 23, 24, 25, 26, 27, 28, 29, 30, 31, 32, 33, 34, 35, 36, 37, 38, 39, 40, 41, 42, 43, 44] (by decide +kernel) (by decide +kernel)
set_option maxRecDepth 20000 in
theorem gX2_rank_X2_rankOfKind : GoodIn wsX2_rank (wsV RX2 72 RX2 yX2_rankOfKind wsX2_rankOfKind) := goodIn_app (goodIn_of _ (by decide +kernel)) ggX2_rank_X2_rankOfKind
theorem dX2_rank_0 : decode cX2_rank 0 = .ok (.iload_n 1, 1) := by decide +kernel
theorem dX2_rank_1 : decode cX2_rank 1 = .ok (.ifCond .lt 8, 3) := by decide +kernel
theorem dX2_rank_4 : decode cX2_rank 4 = .ok (.iload_n 1, 1) := by decide +kernel
theorem dX2_rank_5 : decode cX2_rank 5 = .ok (.iconst 2, 1) := by decide +kernel
theorem dX2_rank_6 : decode cX2_rank 6 = .ok (.if_icmp .le 10, 3) := by decide +kernel
theorem dX2_rank_9 : decode cX2_rank 9 = .ok (.aload_n 0, 1) := by decide +kernel
theorem dX2_rank_10 : decode cX2_rank 10 = .ok (.bipush (-2), 2) := by decide +kernel
theorem dX2_rank_12 : decode cX2_rank 12 = .ok (.invokevirtual 35, 3) := by decide +kernel
theorem dX2_rank_15 : decode cX2_rank 15 = .ok (.ireturn, 1) := by decide +kernel
theorem dX2_rank_16 : decode cX2_rank 16 = .ok (.aload_n 0, 1) := by decide +kernel
theorem dX2_rank_17 : decode cX2_rank 17 = .ok (.iload_n 1, 1) := by decide +kernel
theorem dX2_rank_18 : decode cX2_rank 18 = .ok (.invokevirtual 72, 3) := by decide +kernel
theorem dX2_rank_21 : decode cX2_rank 21 = .ok (.ireturn, 1) := by decide +kernel
set_option maxRecDepth 20000 in
theorem ggX2_message_X2_isWord : GoodIn wsX2_message wsX2_isWord := goodIn_r _ [5, 6, 7, 8, 4, 9, 10, 27, 28, 29, 30, 31, 32, 33, 34, 35] (by decide +kernel) (by decide +kernel)
set_option maxRecDepth 20000 in
theorem gX2_message_X2_isWord : GoodIn wsX2_message (wsV RX2 48 RX2 yX2_isWord wsX2_isWord) := goodIn_app (goodIn_of _ (by decide +kernel)) ggX2_message_X2_isWord
set_option maxRecDepth 20000 in
theorem ggX2_message_X2_fail : GoodIn wsX2_message wsX2_fail := goodIn_r _ [14, 15, 27, 28, 29, 30, 31] (by decide +kernel) (by decide +kernel)
set_option maxRecDepth 20000 in
theorem gX2_message_X2_fail : GoodIn wsX2_message (wsV RX2 35 RX2 yX2_fail wsX2_fail) := goodIn_app (goodIn_of _ (by decide +kernel)) ggX2_message_X2_fail
set_option maxRecDepth 20000 in
theorem ggX2_message_X2_syndrome : GoodIn wsX2_message wsX2_syndrome := goodIn_r _ [19, 10, 20, 21, 22, 23, 24, 25, 26, 27, 28, 29, 30, 31, 32, 33, 34, 35] (by decide +kernel) (by decide +kernel)
set_option maxRecDepth 20000 in
theorem gX2_message_X2_syndrome : GoodIn wsX2_message (wsV RX2 75 RX2 yX2_syndrome wsX2_syndrome) := goodIn_app (goodIn_of _ (by decide +kernel)) ggX2_message_X2_syndrome
theorem dX2_message_0 : decode cX2_message 0 = .ok (.aload_n 0, 1) := by decide +kernel
theorem dX2_message_1 : decode cX2_message 1 = .ok (.iload_n 1, 1) := by decide +kernel
theorem dX2_message_2 : decode cX2_message 2 = .ok (.invokevirtual 48, 3) := by decide +kernel
theorem dX2_message_5 : decode cX2_message 5 = .ok (.ifCond .ne 10, 3) := by decide +kernel
theorem dX2_message_8 : decode cX2_message 8 = .ok (.aload_n 0, 1) := by decide +kernel
theorem dX2_message_9 : decode cX2_message 9 = .ok (.bipush (-2), 2) := by decide +kernel
theorem dX2_message_11 : decode cX2_message 11 = .ok (.invokevirtual 35, 3) := by decide +kernel
theorem dX2_message_14 : decode cX2_message 14 = .ok (.ireturn, 1) := by decide +kernel
theorem dX2_message_15 : decode cX2_message 15 = .ok (.aload_n 0, 1) := by decide +kernel
theorem dX2_message_16 : decode cX2_message 16 = .ok (.iload_n 1, 1) := by decide +kernel
theorem dX2_message_17 : decode cX2_message 17 = .ok (.iconst 0, 1) := by decide +kernel
theorem dX2_message_18 : decode cX2_message 18 = .ok (.invokevirtual 75, 3) := by decide +kernel
theorem dX2_message_21 : decode cX2_message 21 = .ok (.ireturn, 1) := by decide +kernel
set_option maxRecDepth 20000 in
theorem ggX2_checkValue_X2_isWord : GoodIn wsX2_checkValue wsX2_isWord := goodIn_r _ [5, 6, 7, 8, 4, 9, 10, 27, 28, 29, 30, 31, 32, 33, 34, 35] (by decide +kernel) (by decide +kernel)
set_option maxRecDepth 20000 in
theorem gX2_checkValue_X2_isWord : GoodIn wsX2_checkValue (wsV RX2 48 RX2 yX2_isWord wsX2_isWord) := goodIn_app (goodIn_of _ (by decide +kernel)) ggX2_checkValue_X2_isWord
set_option maxRecDepth 20000 in
theorem ggX2_checkValue_X2_fail : GoodIn wsX2_checkValue wsX2_fail := goodIn_r _ [14, 15, 27, 28, 29, 30, 31] (by decide +kernel) (by decide +kernel)
set_option maxRecDepth 20000 in
theorem gX2_checkValue_X2_fail : GoodIn wsX2_checkValue (wsV RX2 35 RX2 yX2_fail wsX2_fail) := goodIn_app (goodIn_of _ (by decide +kernel)) ggX2_checkValue_X2_fail
set_option maxRecDepth 20000 in
theorem ggX2_checkValue_X2_syndrome : GoodIn wsX2_checkValue wsX2_syndrome := goodIn_r _ [19, 10, 20, 21, 22, 23, 24, 25, 26, 27, 28, 29, 30, 31, 32, 33, 34, 35] (by decide +kernel) (by decide +kernel)
set_option maxRecDepth 20000 in
theorem gX2_checkValue_X2_syndrome : GoodIn wsX2_checkValue (wsV RX2 75 RX2 yX2_syndrome wsX2_syndrome) := goodIn_app (goodIn_of _ (by decide +kernel)) ggX2_checkValue_X2_syndrome
theorem dX2_checkValue_0 : decode cX2_checkValue 0 = .ok (.aload_n 0, 1) := by decide +kernel
theorem dX2_checkValue_1 : decode cX2_checkValue 1 = .ok (.iload_n 1, 1) := by decide +kernel
theorem dX2_checkValue_2 : decode cX2_checkValue 2 = .ok (.invokevirtual 48, 3) := by decide +kernel
theorem dX2_checkValue_5 : decode cX2_checkValue 5 = .ok (.ifCond .ne 10, 3) := by decide +kernel
theorem dX2_checkValue_8 : decode cX2_checkValue 8 = .ok (.aload_n 0, 1) := by decide +kernel
theorem dX2_checkValue_9 : decode cX2_checkValue 9 = .ok (.bipush (-2), 2) := by decide +kernel
theorem dX2_checkValue_11 : decode cX2_checkValue 11 = .ok (.invokevirtual 35, 3) := by decide +kernel
theorem dX2_checkValue_14 : decode cX2_checkValue 14 = .ok (.ireturn, 1) := by decide +kernel
theorem dX2_checkValue_15 : decode cX2_checkValue 15 = .ok (.aload_n 0, 1) := by decide +kernel
theorem dX2_checkValue_16 : decode cX2_checkValue 16 = .ok (.iload_n 1, 1) := by decide +kernel
theorem dX2_checkValue_17 : decode cX2_checkValue 17 = .ok (.iconst 1, 1) := by decide +kernel
theorem dX2_checkValue_18 : decode cX2_checkValue 18 = .ok (.invokevirtual 75, 3) := by decide +kernel
theorem dX2_checkValue_21 : decode cX2_checkValue 21 = .ok (.ireturn, 1) := by decide +kernel
set_option maxRecDepth 20000 in
theorem ggX2_codewords_X2_rankOfKind : GoodIn wsX2_codewords wsX2_rankOfKind := goodIn_r _ [6, 7, 8, 9, 10, 11, 12, 13, 14, 15, 5, 16, 1, 17, 18, 19, 20, 21, 22, 23, 24, 25, 26, 27, 28, 29, 30, 31, 32, 33, 38, 39, 34, 35, 36, 37] (by decide +kernel) (by decide +kernel)
set_option maxRecDepth 20000 in
theorem gX2_codewords_X2_rankOfKind : GoodIn wsX2_codewords (wsV RX2 72 RX2 yX2_rankOfKind wsX2_rankOfKind) := goodIn_app (goodIn_of _ (by decide +kernel)) ggX2_codewords_X2_rankOfKind
theorem dX2_codewords_0 : decode cX2_codewords 0 = .ok (.iconst 1, 1) := by decide +kernel
theorem dX2_codewords_1 : decode cX2_codewords 1 = .ok (.aload_n 0, 1) := by decide +kernel
theorem dX2_codewords_2 : decode cX2_codewords 2 = .ok (.getfield 12, 3) := by decide +kernel
theorem dX2_codewords_5 : decode cX2_codewords 5 = .ok (.getfield 42, 3) := by decide +kernel
theorem dX2_codewords_8 : decode cX2_codewords 8 = .ok (.aload_n 0, 1) := by decide +kernel
theorem dX2_codewords_9 : decode cX2_codewords 9 = .ok (.iconst 1, 1) := by decide +kernel
theorem dX2_codewords_10 : decode cX2_codewords 10 = .ok (.invokevirtual 72, 3) := by decide +kernel
theorem dX2_codewords_13 : decode cX2_codewords 13 = .ok (.isub, 1) := by decide +kernel
theorem dX2_codewords_14 : decode cX2_codewords 14 = .ok (.ishl, 1) := by decide +kernel
theorem dX2_codewords_15 : decode cX2_codewords 15 = .ok (.ireturn, 1) := by decide +kernel
set_option maxRecDepth 20000 in
theorem ggX2_messages_X2_allPositions : GoodIn wsX2_messages wsX2_allPositions := goodIn_r _ [5, 6, 29, 30, 31, 32, 33, 34, 35, 36, 37] (by decide +kernel) (by decide +kernel)
set_option maxRecDepth 20000 in
theorem gX2_messages_X2_allPositions : GoodIn wsX2_messages (wsV RX2 79 RX2 yX2_allPositions wsX2_allPositions) := goodIn_app (goodIn_of _ (by decide +kernel)) ggX2_messages_X2_allPositions
set_option maxRecDepth 20000 in
theorem ggX2_messages_X2_hiddenBits : GoodIn wsX2_messages wsX2_hiddenBits := goodIn_r _ [10, 11, 12, 13, 14, 15, 16, 17, 18, 19, 4, 20, 6, 21, 22, 23, 24, 25, 26, 27, 28, 29, 30, 31, 32, 33, 38, 39, 34, 35, 36, 37] (by decide +kernel) (by decide +kernel)
set_option maxRecDepth 20000 in
theorem gX2_messages_X2_hiddenBits : GoodIn wsX2_messages (wsV RX2 83 RX2 yX2_hiddenBits wsX2_hiddenBits) := goodIn_app (goodIn_of _ (by decide +kernel)) ggX2_messages_X2_hiddenBits
theorem dX2_messages_0 : decode cX2_messages 0 = .ok (.iconst 1, 1) := by decide +kernel
theorem dX2_messages_1 : decode cX2_messages 1 = .ok (.aload_n 0, 1) := by decide +kernel
theorem dX2_messages_2 : decode cX2_messages 2 = .ok (.aload_n 0, 1) := by decide +kernel
theorem dX2_messages_3 : decode cX2_messages 3 = .ok (.invokevirtual 79, 3) := by decide +kernel
theorem dX2_messages_6 : decode cX2_messages 6 = .ok (.invokevirtual 83, 3) := by decide +kernel
theorem dX2_messages_9 : decode cX2_messages 9 = .ok (.ishl, 1) := by decide +kernel
theorem dX2_messages_10 : decode cX2_messages 10 = .ok (.ireturn, 1) := by decide +kernel
set_option maxRecDepth 20000 in
theorem ggX2_choices_X2_isMessage : GoodIn wsX2_choices wsX2_isMessage := goodIn_r _ [4] (by decide +kernel) (by decide +kernel)
set_option maxRecDepth 20000 in
theorem gX2_choices_X2_isMessage : GoodIn wsX2_choices (va_wsS RX2 86 yX2_isMessage wsX2_isMessage) := goodIn_app (goodIn_of _ (by decide +kernel)) ggX2_choices_X2_isMessage
set_option maxRecDepth 20000 in
theorem ggX2_choices_X2_fail : GoodIn wsX2_choices wsX2_fail := goodIn_r _ [8, 9, 34, 35, 36, 37, 38] (by decide +kernel) (by decide +kernel)
set_option maxRecDepth 20000 in
theorem gX2_choices_X2_fail : GoodIn wsX2_choices (wsV RX2 35 RX2 yX2_fail wsX2_fail) := goodIn_app (goodIn_of _ (by decide +kernel)) ggX2_choices_X2_fail
set_option maxRecDepth 20000 in
theorem ggX2_choices_X2_allPositions : GoodIn wsX2_choices wsX2_allPositions := goodIn_r _ [13, 14, 34, 35, 36, 37, 38, 39, 40, 41, 42] (by decide +kernel) (by decide +kernel)
set_option maxRecDepth 20000 in
theorem gX2_choices_X2_allPositions : GoodIn wsX2_choices (wsV RX2 79 RX2 yX2_allPositions wsX2_allPositions) := goodIn_app (goodIn_of _ (by decide +kernel)) ggX2_choices_X2_allPositions
set_option maxRecDepth 20000 in
theorem ggX2_choices_X2_isCodewordOf : GoodIn wsX2_choices wsX2_isCodewordOf := goodIn_r _ [18, 19, 20, 21, 3, 22, 23, 24, 25, 26, 14, 27, 28, 29, 30, 31, 32, 33, 34, 35, 36, 37, 38, 39, 40, 41, 42] (by decide +kernel) (by decide +kernel)
set_option maxRecDepth 20000 in
theorem gX2_choices_X2_isCodewordOf : GoodIn wsX2_choices (wsV RX2 89 RX2 yX2_isCodewordOf wsX2_isCodewordOf) := goodIn_app (goodIn_of _ (by decide +kernel)) ggX2_choices_X2_isCodewordOf
theorem dX2_choices_0 : decode cX2_choices 0 = .ok (.iload_n 1, 1) := by decide +kernel
theorem dX2_choices_1 : decode cX2_choices 1 = .ok (.invokestatic 86, 3) := by decide +kernel
theorem dX2_choices_4 : decode cX2_choices 4 = .ok (.ifCond .ne 10, 3) := by decide +kernel
theorem dX2_choices_7 : decode cX2_choices 7 = .ok (.aload_n 0, 1) := by decide +kernel
theorem dX2_choices_8 : decode cX2_choices 8 = .ok (.bipush (-2), 2) := by decide +kernel
theorem dX2_choices_10 : decode cX2_choices 10 = .ok (.invokevirtual 35, 3) := by decide +kernel
theorem dX2_choices_13 : decode cX2_choices 13 = .ok (.ireturn, 1) := by decide +kernel
theorem dX2_choices_14 : decode cX2_choices 14 = .ok (.iconst 0, 1) := by decide +kernel
theorem dX2_choices_15 : decode cX2_choices 15 = .ok (.istore_n 2, 1) := by decide +kernel
theorem dX2_choices_16 : decode cX2_choices 16 = .ok (.iconst 0, 1) := by decide +kernel
theorem dX2_choices_17 : decode cX2_choices 17 = .ok (.istore_n 3, 1) := by decide +kernel
theorem dX2_choices_18 : decode cX2_choices 18 = .ok (.iload_n 3, 1) := by decide +kernel
theorem dX2_choices_19 : decode cX2_choices 19 = .ok (.aload_n 0, 1) := by decide +kernel
theorem dX2_choices_20 : decode cX2_choices 20 = .ok (.invokevirtual 79, 3) := by decide +kernel
theorem dX2_choices_23 : decode cX2_choices 23 = .ok (.if_icmp .gt 21, 3) := by decide +kernel
theorem dX2_choices_26 : decode cX2_choices 26 = .ok (.aload_n 0, 1) := by decide +kernel
theorem dX2_choices_27 : decode cX2_choices 27 = .ok (.iload_n 3, 1) := by decide +kernel
theorem dX2_choices_28 : decode cX2_choices 28 = .ok (.iload_n 1, 1) := by decide +kernel
theorem dX2_choices_29 : decode cX2_choices 29 = .ok (.invokevirtual 89, 3) := by decide +kernel
theorem dX2_choices_32 : decode cX2_choices 32 = .ok (.ifCond .eq 6, 3) := by decide +kernel
theorem dX2_choices_35 : decode cX2_choices 35 = .ok (.iinc 2 1, 3) := by decide +kernel
theorem dX2_choices_38 : decode cX2_choices 38 = .ok (.iinc 3 1, 3) := by decide +kernel
theorem dX2_choices_41 : decode cX2_choices 41 = .ok (.goto (-23), 3) := by decide +kernel
theorem dX2_choices_44 : decode cX2_choices 44 = .ok (.iload_n 2, 1) := by decide +kernel
theorem dX2_choices_45 : decode cX2_choices 45 = .ok (.ireturn, 1) := by decide +kernel
set_option maxRecDepth 20000 in
theorem ggX2_encode_X2_isMessage : GoodIn wsX2_encode wsX2_isMessage := goodIn_r _ [4] (by decide +kernel) (by decide +kernel)
set_option maxRecDepth 20000 in
theorem gX2_encode_X2_isMessage : GoodIn wsX2_encode (va_wsS RX2 86 yX2_isMessage wsX2_isMessage) := goodIn_app (goodIn_of _ (by decide +kernel)) ggX2_encode_X2_isMessage
set_option maxRecDepth 20000 in
theorem ggX2_encode_X2_fail : GoodIn wsX2_encode wsX2_fail := goodIn_r _ [8, 9, 34, 35, 36, 37, 38] (by decide +kernel) (by decide +kernel)
set_option maxRecDepth 20000 in
theorem gX2_encode_X2_fail : GoodIn wsX2_encode (wsV RX2 35 RX2 yX2_fail wsX2_fail) := goodIn_app (goodIn_of _ (by decide +kernel)) ggX2_encode_X2_fail
set_option maxRecDepth 20000 in
theorem ggX2_encode_X2_allPositions : GoodIn wsX2_encode wsX2_allPositions := goodIn_r _ [13, 14, 34, 35, 36, 37, 38, 39, 40, 41, 42] (by decide +kernel) (by decide +kernel)
set_option maxRecDepth 20000 in
theorem gX2_encode_X2_allPositions : GoodIn wsX2_encode (wsV RX2 79 RX2 yX2_allPositions wsX2_allPositions) := goodIn_app (goodIn_of _ (by decide +kernel)) ggX2_encode_X2_allPositions
set_option maxRecDepth 20000 in
theorem ggX2_encode_X2_isCodewordOf : GoodIn wsX2_encode wsX2_isCodewordOf := goodIn_r _ [18, 19, 20, 21, 3, 22, 23, 24, 25, 26, 14, 27, 28, 29, 30, 31, 32, 33, 34, 35, 36, 37, 38, 39, 40, 41, 42] (by decide +kernel) (by decide +kernel)
set_option maxRecDepth 20000 in
theorem gX2_encode_X2_isCodewordOf : GoodIn wsX2_encode (wsV RX2 89 RX2 yX2_isCodewordOf wsX2_isCodewordOf) := goodIn_app (goodIn_of _ (by decide +kernel)) ggX2_encode_X2_isCodewordOf
theorem dX2_encode_0 : decode cX2_encode 0 = .ok (.iload_n 1, 1) := by decide +kernel
theorem dX2_encode_1 : decode cX2_encode 1 = .ok (.invokestatic 86, 3) := by decide +kernel
theorem dX2_encode_4 : decode cX2_encode 4 = .ok (.ifCond .eq 7, 3) := by decide +kernel
theorem dX2_encode_7 : decode cX2_encode 7 = .ok (.iload_n 2, 1) := by decide +kernel
theorem dX2_encode_8 : decode cX2_encode 8 = .ok (.ifCond .ge 10, 3) := by decide +kernel
theorem dX2_encode_11 : decode cX2_encode 11 = .ok (.aload_n 0, 1) := by decide +kernel
theorem dX2_encode_12 : decode cX2_encode 12 = .ok (.bipush (-2), 2) := by decide +kernel
theorem dX2_encode_14 : decode cX2_encode 14 = .ok (.invokevirtual 35, 3) := by decide +kernel
theorem dX2_encode_17 : decode cX2_encode 17 = .ok (.ireturn, 1) := by decide +kernel
theorem dX2_encode_18 : decode cX2_encode 18 = .ok (.iconst 0, 1) := by decide +kernel
theorem dX2_encode_19 : decode cX2_encode 19 = .ok (.istore_n 3, 1) := by decide +kernel
theorem dX2_encode_20 : decode cX2_encode 20 = .ok (.iconst 0, 1) := by decide +kernel
theorem dX2_encode_21 : decode cX2_encode 21 = .ok (.istore 4, 2) := by decide +kernel
theorem dX2_encode_23 : decode cX2_encode 23 = .ok (.iload 4, 2) := by decide +kernel
theorem dX2_encode_25 : decode cX2_encode 25 = .ok (.aload_n 0, 1) := by decide +kernel
theorem dX2_encode_26 : decode cX2_encode 26 = .ok (.invokevirtual 79, 3) := by decide +kernel
theorem dX2_encode_29 : decode cX2_encode 29 = .ok (.if_icmp .gt 30, 3) := by decide +kernel
theorem dX2_encode_32 : decode cX2_encode 32 = .ok (.aload_n 0, 1) := by decide +kernel
theorem dX2_encode_33 : decode cX2_encode 33 = .ok (.iload 4, 2) := by decide +kernel
theorem dX2_encode_35 : decode cX2_encode 35 = .ok (.iload_n 1, 1) := by decide +kernel
theorem dX2_encode_36 : decode cX2_encode 36 = .ok (.invokevirtual 89, 3) := by decide +kernel
theorem dX2_encode_39 : decode cX2_encode 39 = .ok (.ifCond .eq 14, 3) := by decide +kernel
theorem dX2_encode_42 : decode cX2_encode 42 = .ok (.iload_n 3, 1) := by decide +kernel
theorem dX2_encode_43 : decode cX2_encode 43 = .ok (.iload_n 2, 1) := by decide +kernel
theorem dX2_encode_44 : decode cX2_encode 44 = .ok (.if_icmp .ne 6, 3) := by decide +kernel
theorem dX2_encode_47 : decode cX2_encode 47 = .ok (.iload 4, 2) := by decide +kernel
theorem dX2_encode_49 : decode cX2_encode 49 = .ok (.ireturn, 1) := by decide +kernel
theorem dX2_encode_50 : decode cX2_encode 50 = .ok (.iinc 3 1, 3) := by decide +kernel
theorem dX2_encode_53 : decode cX2_encode 53 = .ok (.iinc 4 1, 3) := by decide +kernel
theorem dX2_encode_56 : decode cX2_encode 56 = .ok (.goto (-33), 3) := by decide +kernel
theorem dX2_encode_59 : decode cX2_encode 59 = .ok (.aload_n 0, 1) := by decide +kernel
theorem dX2_encode_60 : decode cX2_encode 60 = .ok (.bipush (-3), 2) := by decide +kernel
theorem dX2_encode_62 : decode cX2_encode 62 = .ok (.invokevirtual 35, 3) := by decide +kernel
theorem dX2_encode_65 : decode cX2_encode 65 = .ok (.ireturn, 1) := by decide +kernel
set_option maxRecDepth 20000 in
theorem ggX2_decode_X2_isWord : GoodIn wsX2_decode wsX2_isWord := goodIn_r _ [5, 6, 7, 8, 4, 9, 10, 35, 36, 37, 38, 39, 40, 41, 42, 43] (by decide +kernel) (by decide +kernel)
set_option maxRecDepth 20000 in
theorem gX2_decode_X2_isWord : GoodIn wsX2_decode (wsV RX2 48 RX2 yX2_isWord wsX2_isWord) := goodIn_app (goodIn_of _ (by decide +kernel)) ggX2_decode_X2_isWord
set_option maxRecDepth 20000 in
theorem ggX2_decode_X2_fail : GoodIn wsX2_decode wsX2_fail := goodIn_r _ [14, 15, 35, 36, 37, 38, 39] (by decide +kernel) (by decide +kernel)
set_option maxRecDepth 20000 in
theorem gX2_decode_X2_fail : GoodIn wsX2_decode (wsV RX2 35 RX2 yX2_fail wsX2_fail) := goodIn_app (goodIn_of _ (by decide +kernel)) ggX2_decode_X2_fail
set_option maxRecDepth 20000 in
theorem ggX2_decode_X2_leastDistance : GoodIn wsX2_decode wsX2_leastDistance := goodIn_r _ [19, 20, 21, 22, 23, 24, 25, 26, 6, 7, 8, 4, 9, 10, 27, 28, 29, 30, 31, 32, 33, 34, 35, 36, 37, 38, 39, 40, 41, 42, 43] (by decide +kernel) (by decide +kernel)
set_option maxRecDepth 20000 in
theorem gX2_decode_X2_leastDistance : GoodIn wsX2_decode (wsV RX2 93 RX2 yX2_leastDistance wsX2_leastDistance) := goodIn_app (goodIn_of _ (by decide +kernel)) ggX2_decode_X2_leastDistance
set_option maxRecDepth 20000 in
theorem ggX2_decode_X2_allPositions : GoodIn wsX2_decode wsX2_allPositions := goodIn_r _ [9, 10, 35, 36, 37, 38, 39, 40, 41, 42, 43] (by decide +kernel) (by decide +kernel)
set_option maxRecDepth 20000 in
theorem gX2_decode_X2_allPositions : GoodIn wsX2_decode (wsV RX2 79 RX2 yX2_allPositions wsX2_allPositions) := goodIn_app (goodIn_of _ (by decide +kernel)) ggX2_decode_X2_allPositions
set_option maxRecDepth 20000 in
theorem ggX2_decode_J6_bitCount_0f7a4 : GoodIn wsX2_decode wsJ6_bitCount_0f7a4 := goodIn_r _ [23, 24, 25, 26] (by decide +kernel) (by decide +kernel)
set_option maxRecDepth 20000 in
theorem gX2_decode_J6_bitCount_0f7a4 : GoodIn wsX2_decode (va_wsS RX2 96 yJ6_bitCount_0f7a4 wsJ6_bitCount_0f7a4) := goodIn_app (goodIn_of _ (by decide +kernel)) ggX2_decode_J6_bitCount_0f7a4
set_option maxRecDepth 20000 in
theorem ggX2_decode_X2_isCodeword : GoodIn wsX2_decode wsX2_isCodeword := goodIn_r _ [30, 31, 32, 33, 4, 34, 10, 20, 21, 22, 23, 24, 25, 26, 35, 36, 37, 38, 39, 40, 41, 42, 43] (by decide +kernel) (by decide +kernel)
set_option maxRecDepth 20000 in
theorem gX2_decode_X2_isCodeword : GoodIn wsX2_decode (wsV RX2 101 RX2 yX2_isCodeword wsX2_isCodeword) := goodIn_app (goodIn_of _ (by decide +kernel)) ggX2_decode_X2_isCodeword
set_option maxRecDepth 20000 in
theorem ggX2_decode_X2_syndrome : GoodIn wsX2_decode wsX2_syndrome := goodIn_r _ [34, 10, 20, 21, 22, 23, 24, 25, 26, 35, 36, 37, 38, 39, 40, 41, 42, 43] (by decide +kernel) (by decide +kernel)
set_option maxRecDepth 20000 in
theorem gX2_decode_X2_syndrome : GoodIn wsX2_decode (wsV RX2 75 RX2 yX2_syndrome wsX2_syndrome) := goodIn_app (goodIn_of _ (by decide +kernel)) ggX2_decode_X2_syndrome
theorem dX2_decode_0 : decode cX2_decode 0 = .ok (.aload_n 0, 1) := by decide +kernel
theorem dX2_decode_1 : decode cX2_decode 1 = .ok (.iload_n 1, 1) := by decide +kernel
theorem dX2_decode_2 : decode cX2_decode 2 = .ok (.invokevirtual 48, 3) := by decide +kernel
theorem dX2_decode_5 : decode cX2_decode 5 = .ok (.ifCond .ne 10, 3) := by decide +kernel
theorem dX2_decode_8 : decode cX2_decode 8 = .ok (.aload_n 0, 1) := by decide +kernel
theorem dX2_decode_9 : decode cX2_decode 9 = .ok (.bipush (-2), 2) := by decide +kernel
theorem dX2_decode_11 : decode cX2_decode 11 = .ok (.invokevirtual 35, 3) := by decide +kernel
theorem dX2_decode_14 : decode cX2_decode 14 = .ok (.ireturn, 1) := by decide +kernel
theorem dX2_decode_15 : decode cX2_decode 15 = .ok (.aload_n 0, 1) := by decide +kernel
theorem dX2_decode_16 : decode cX2_decode 16 = .ok (.iload_n 1, 1) := by decide +kernel
theorem dX2_decode_17 : decode cX2_decode 17 = .ok (.invokevirtual 93, 3) := by decide +kernel
theorem dX2_decode_20 : decode cX2_decode 20 = .ok (.istore_n 2, 1) := by decide +kernel
theorem dX2_decode_21 : decode cX2_decode 21 = .ok (.iconst (-1), 1) := by decide +kernel
theorem dX2_decode_22 : decode cX2_decode 22 = .ok (.istore_n 3, 1) := by decide +kernel
theorem dX2_decode_23 : decode cX2_decode 23 = .ok (.iconst 0, 1) := by decide +kernel
theorem dX2_decode_24 : decode cX2_decode 24 = .ok (.istore 4, 2) := by decide +kernel
theorem dX2_decode_26 : decode cX2_decode 26 = .ok (.iload 4, 2) := by decide +kernel
theorem dX2_decode_28 : decode cX2_decode 28 = .ok (.aload_n 0, 1) := by decide +kernel
theorem dX2_decode_29 : decode cX2_decode 29 = .ok (.invokevirtual 79, 3) := by decide +kernel
theorem dX2_decode_32 : decode cX2_decode 32 = .ok (.if_icmp .gt 59, 3) := by decide +kernel
theorem dX2_decode_35 : decode cX2_decode 35 = .ok (.iload 4, 2) := by decide +kernel
theorem dX2_decode_37 : decode cX2_decode 37 = .ok (.iload_n 1, 1) := by decide +kernel
theorem dX2_decode_38 : decode cX2_decode 38 = .ok (.ixor, 1) := by decide +kernel
theorem dX2_decode_39 : decode cX2_decode 39 = .ok (.invokestatic 96, 3) := by decide +kernel
theorem dX2_decode_42 : decode cX2_decode 42 = .ok (.iload_n 2, 1) := by decide +kernel
theorem dX2_decode_43 : decode cX2_decode 43 = .ok (.if_icmp .ne 42, 3) := by decide +kernel
theorem dX2_decode_46 : decode cX2_decode 46 = .ok (.aload_n 0, 1) := by decide +kernel
theorem dX2_decode_47 : decode cX2_decode 47 = .ok (.iload 4, 2) := by decide +kernel
theorem dX2_decode_49 : decode cX2_decode 49 = .ok (.invokevirtual 101, 3) := by decide +kernel
theorem dX2_decode_52 : decode cX2_decode 52 = .ok (.ifCond .eq 33, 3) := by decide +kernel
theorem dX2_decode_55 : decode cX2_decode 55 = .ok (.aload_n 0, 1) := by decide +kernel
theorem dX2_decode_56 : decode cX2_decode 56 = .ok (.iload 4, 2) := by decide +kernel
theorem dX2_decode_58 : decode cX2_decode 58 = .ok (.iconst 0, 1) := by decide +kernel
theorem dX2_decode_59 : decode cX2_decode 59 = .ok (.invokevirtual 75, 3) := by decide +kernel
theorem dX2_decode_62 : decode cX2_decode 62 = .ok (.istore 5, 2) := by decide +kernel
theorem dX2_decode_64 : decode cX2_decode 64 = .ok (.iload_n 3, 1) := by decide +kernel
theorem dX2_decode_65 : decode cX2_decode 65 = .ok (.iconst (-1), 1) := by decide +kernel
theorem dX2_decode_66 : decode cX2_decode 66 = .ok (.if_icmp .eq 16, 3) := by decide +kernel
theorem dX2_decode_69 : decode cX2_decode 69 = .ok (.iload_n 3, 1) := by decide +kernel
theorem dX2_decode_70 : decode cX2_decode 70 = .ok (.iload 5, 2) := by decide +kernel
theorem dX2_decode_72 : decode cX2_decode 72 = .ok (.if_icmp .eq 10, 3) := by decide +kernel
theorem dX2_decode_75 : decode cX2_decode 75 = .ok (.aload_n 0, 1) := by decide +kernel
theorem dX2_decode_76 : decode cX2_decode 76 = .ok (.bipush (-5), 2) := by decide +kernel
theorem dX2_decode_78 : decode cX2_decode 78 = .ok (.invokevirtual 35, 3) := by decide +kernel
theorem dX2_decode_81 : decode cX2_decode 81 = .ok (.ireturn, 1) := by decide +kernel
theorem dX2_decode_82 : decode cX2_decode 82 = .ok (.iload 5, 2) := by decide +kernel
theorem dX2_decode_84 : decode cX2_decode 84 = .ok (.istore_n 3, 1) := by decide +kernel
theorem dX2_decode_85 : decode cX2_decode 85 = .ok (.iinc 4 1, 3) := by decide +kernel
theorem dX2_decode_88 : decode cX2_decode 88 = .ok (.goto (-62), 3) := by decide +kernel
theorem dX2_decode_91 : decode cX2_decode 91 = .ok (.iload_n 3, 1) := by decide +kernel
theorem dX2_decode_92 : decode cX2_decode 92 = .ok (.ireturn, 1) := by decide +kernel
set_option maxRecDepth 20000 in
theorem ggX2_distance_X2_isWord : GoodIn wsX2_distance wsX2_isWord := goodIn_r _ [5, 6, 7, 8, 4, 9, 10, 35, 36, 37, 38, 39, 40, 41, 42, 43] (by decide +kernel) (by decide +kernel)
set_option maxRecDepth 20000 in
theorem gX2_distance_X2_isWord : GoodIn wsX2_distance (wsV RX2 48 RX2 yX2_isWord wsX2_isWord) := goodIn_app (goodIn_of _ (by decide +kernel)) ggX2_distance_X2_isWord
set_option maxRecDepth 20000 in
theorem ggX2_distance_X2_fail : GoodIn wsX2_distance wsX2_fail := goodIn_r _ [14, 15, 35, 36, 37, 38, 39] (by decide +kernel) (by decide +kernel)
set_option maxRecDepth 20000 in
theorem gX2_distance_X2_fail : GoodIn wsX2_distance (wsV RX2 35 RX2 yX2_fail wsX2_fail) := goodIn_app (goodIn_of _ (by decide +kernel)) ggX2_distance_X2_fail
set_option maxRecDepth 20000 in
theorem ggX2_distance_X2_leastDistance : GoodIn wsX2_distance wsX2_leastDistance := goodIn_r _ [19, 20, 21, 22, 23, 24, 25, 26, 6, 7, 8, 4, 9, 10, 27, 28, 29, 30, 31, 32, 33, 34, 35, 36, 37, 38, 39, 40, 41, 42, 43] (by decide +kernel) (by decide +kernel)
set_option maxRecDepth 20000 in
theorem gX2_distance_X2_leastDistance : GoodIn wsX2_distance (wsV RX2 93 RX2 yX2_leastDistance wsX2_leastDistance) := goodIn_app (goodIn_of _ (by decide +kernel)) ggX2_distance_X2_leastDistance
theorem dX2_distance_0 : decode cX2_distance 0 = .ok (.aload_n 0, 1) := by decide +kernel
theorem dX2_distance_1 : decode cX2_distance 1 = .ok (.iload_n 1, 1) := by decide +kernel
theorem dX2_distance_2 : decode cX2_distance 2 = .ok (.invokevirtual 48, 3) := by decide +kernel
theorem dX2_distance_5 : decode cX2_distance 5 = .ok (.ifCond .ne 10, 3) := by decide +kernel
theorem dX2_distance_8 : decode cX2_distance 8 = .ok (.aload_n 0, 1) := by decide +kernel
theorem dX2_distance_9 : decode cX2_distance 9 = .ok (.bipush (-2), 2) := by decide +kernel
theorem dX2_distance_11 : decode cX2_distance 11 = .ok (.invokevirtual 35, 3) := by decide +kernel
theorem dX2_distance_14 : decode cX2_distance 14 = .ok (.ireturn, 1) := by decide +kernel
theorem dX2_distance_15 : decode cX2_distance 15 = .ok (.aload_n 0, 1) := by decide +kernel
theorem dX2_distance_16 : decode cX2_distance 16 = .ok (.iload_n 1, 1) := by decide +kernel
theorem dX2_distance_17 : decode cX2_distance 17 = .ok (.invokevirtual 93, 3) := by decide +kernel
theorem dX2_distance_20 : decode cX2_distance 20 = .ok (.ireturn, 1) := by decide +kernel
set_option maxRecDepth 20000 in
theorem ggX2_weakness_X2_leastFatalErrors : GoodIn wsX2_weakness wsX2_leastFatalErrors := goodIn_r _ [5, 6, 7, 8, 4, 9, 10, 11, 12, 13, 14, 15, 16, 17, 18, 19, 20, 21, 22, 23, 24, 25, 26, 27, 28, 29, 30, 31, 32, 33, 34] (by decide +kernel) (by decide +kernel)
set_option maxRecDepth 20000 in
theorem gX2_weakness_X2_leastFatalErrors : GoodIn wsX2_weakness (wsV RX2 104 RX2 yX2_leastFatalErrors wsX2_leastFatalErrors) := goodIn_app (goodIn_of _ (by decide +kernel)) ggX2_weakness_X2_leastFatalErrors
theorem dX2_weakness_0 : decode cX2_weakness 0 = .ok (.aload_n 0, 1) := by decide +kernel
theorem dX2_weakness_1 : decode cX2_weakness 1 = .ok (.invokevirtual 104, 3) := by decide +kernel
theorem dX2_weakness_4 : decode cX2_weakness 4 = .ok (.ireturn, 1) := by decide +kernel
set_option maxRecDepth 20000 in
theorem ggX2_leakage_X2_isWord : GoodIn wsX2_leakage wsX2_isWord := goodIn_r _ [5, 6, 7, 8, 4, 9, 10, 42, 43, 44, 45, 46, 47, 48, 49, 50] (by decide +kernel) (by decide +kernel)
set_option maxRecDepth 20000 in
theorem gX2_leakage_X2_isWord : GoodIn wsX2_leakage (wsV RX2 48 RX2 yX2_isWord wsX2_isWord) := goodIn_app (goodIn_of _ (by decide +kernel)) ggX2_leakage_X2_isWord
set_option maxRecDepth 20000 in
theorem ggX2_leakage_X2_fail : GoodIn wsX2_leakage wsX2_fail := goodIn_r _ [14, 15, 42, 43, 44, 45, 46] (by decide +kernel) (by decide +kernel)
set_option maxRecDepth 20000 in
theorem gX2_leakage_X2_fail : GoodIn wsX2_leakage (wsV RX2 35 RX2 yX2_fail wsX2_fail) := goodIn_app (goodIn_of _ (by decide +kernel)) ggX2_leakage_X2_fail
set_option maxRecDepth 20000 in
theorem ggX2_leakage_X2_leakedBits : GoodIn wsX2_leakage wsX2_leakedBits := goodIn_r _ [19, 6, 7, 8, 4, 9, 10, 20, 21, 22, 23, 24, 25, 26, 27, 28, 29, 30, 31, 32, 33, 34, 35, 36, 37, 38, 39, 40, 41, 42, 43, 44, 45, 46, 47, 48, 49, 50, 51, 52] (by decide +kernel) (by decide +kernel)
set_option maxRecDepth 20000 in
theorem gX2_leakage_X2_leakedBits : GoodIn wsX2_leakage (wsV RX2 107 RX2 yX2_leakedBits wsX2_leakedBits) := goodIn_app (goodIn_of _ (by decide +kernel)) ggX2_leakage_X2_leakedBits
theorem dX2_leakage_0 : decode cX2_leakage 0 = .ok (.aload_n 0, 1) := by decide +kernel
theorem dX2_leakage_1 : decode cX2_leakage 1 = .ok (.iload_n 1, 1) := by decide +kernel
theorem dX2_leakage_2 : decode cX2_leakage 2 = .ok (.invokevirtual 48, 3) := by decide +kernel
theorem dX2_leakage_5 : decode cX2_leakage 5 = .ok (.ifCond .ne 10, 3) := by decide +kernel
theorem dX2_leakage_8 : decode cX2_leakage 8 = .ok (.aload_n 0, 1) := by decide +kernel
theorem dX2_leakage_9 : decode cX2_leakage 9 = .ok (.bipush (-2), 2) := by decide +kernel
theorem dX2_leakage_11 : decode cX2_leakage 11 = .ok (.invokevirtual 35, 3) := by decide +kernel
theorem dX2_leakage_14 : decode cX2_leakage 14 = .ok (.ireturn, 1) := by decide +kernel
theorem dX2_leakage_15 : decode cX2_leakage 15 = .ok (.aload_n 0, 1) := by decide +kernel
theorem dX2_leakage_16 : decode cX2_leakage 16 = .ok (.iload_n 1, 1) := by decide +kernel
theorem dX2_leakage_17 : decode cX2_leakage 17 = .ok (.invokevirtual 107, 3) := by decide +kernel
theorem dX2_leakage_20 : decode cX2_leakage 20 = .ok (.ireturn, 1) := by decide +kernel
set_option maxRecDepth 20000 in
theorem ggX2_worstLeakage_X2_isSize : GoodIn wsX2_worstLeakage wsX2_isSize := goodIn_r _ [5, 6, 53, 54, 55, 56, 57, 58, 59, 60, 61] (by decide +kernel) (by decide +kernel)
set_option maxRecDepth 20000 in
theorem gX2_worstLeakage_X2_isSize : GoodIn wsX2_worstLeakage (wsV RX2 110 RX2 yX2_isSize wsX2_isSize) := goodIn_app (goodIn_of _ (by decide +kernel)) ggX2_worstLeakage_X2_isSize
set_option maxRecDepth 20000 in
theorem ggX2_worstLeakage_X2_fail : GoodIn wsX2_worstLeakage wsX2_fail := goodIn_r _ [10, 11, 53, 54, 55, 56, 57] (by decide +kernel) (by decide +kernel)
set_option maxRecDepth 20000 in
theorem gX2_worstLeakage_X2_fail : GoodIn wsX2_worstLeakage (wsV RX2 35 RX2 yX2_fail wsX2_fail) := goodIn_app (goodIn_of _ (by decide +kernel)) ggX2_worstLeakage_X2_fail
set_option maxRecDepth 20000 in
theorem ggX2_worstLeakage_X2_leakiestSet : GoodIn wsX2_worstLeakage wsX2_leakiestSet := goodIn_r _ [15, 16, 17, 18, 4, 19, 6, 20, 21, 22, 23, 24, 25, 26, 27, 28, 29, 30, 31, 32, 33, 34, 35, 36, 37, 38, 39, 40, 41, 42, 43, 44, 45, 46, 47, 48, 53, 54, 55, 56, 57, 58, 59, 60, 61, 62, 63] (by decide +kernel) (by decide +kernel)
set_option maxRecDepth 20000 in
theorem gX2_worstLeakage_X2_leakiestSet : GoodIn wsX2_worstLeakage (wsV RX2 113 RX2 yX2_leakiestSet wsX2_leakiestSet) := goodIn_app (goodIn_of _ (by decide +kernel)) ggX2_worstLeakage_X2_leakiestSet
set_option maxRecDepth 20000 in
theorem ggX2_worstLeakage_X2_leakedBits : GoodIn wsX2_worstLeakage wsX2_leakedBits := goodIn_r _ [52, 16, 17, 18, 4, 19, 6, 27, 28, 29, 30, 31, 32, 33, 34, 35, 36, 37, 38, 39, 40, 41, 42, 43, 44, 45, 46, 47, 48, 53, 54, 55, 56, 57, 58, 59, 60, 61, 62, 63] (by decide +kernel) (by decide +kernel)
set_option maxRecDepth 20000 in
theorem gX2_worstLeakage_X2_leakedBits : GoodIn wsX2_worstLeakage (wsV RX2 107 RX2 yX2_leakedBits wsX2_leakedBits) := goodIn_app (goodIn_of _ (by decide +kernel)) ggX2_worstLeakage_X2_leakedBits
theorem dX2_worstLeakage_0 : decode cX2_worstLeakage 0 = .ok (.aload_n 0, 1) := by decide +kernel
theorem dX2_worstLeakage_1 : decode cX2_worstLeakage 1 = .ok (.iload_n 1, 1) := by decide +kernel
theorem dX2_worstLeakage_2 : decode cX2_worstLeakage 2 = .ok (.invokevirtual 110, 3) := by decide +kernel
theorem dX2_worstLeakage_5 : decode cX2_worstLeakage 5 = .ok (.ifCond .ne 10, 3) := by decide +kernel
theorem dX2_worstLeakage_8 : decode cX2_worstLeakage 8 = .ok (.aload_n 0, 1) := by decide +kernel
theorem dX2_worstLeakage_9 : decode cX2_worstLeakage 9 = .ok (.bipush (-2), 2) := by decide +kernel
theorem dX2_worstLeakage_11 : decode cX2_worstLeakage 11 = .ok (.invokevirtual 35, 3) := by decide +kernel
theorem dX2_worstLeakage_14 : decode cX2_worstLeakage 14 = .ok (.ireturn, 1) := by decide +kernel
theorem dX2_worstLeakage_15 : decode cX2_worstLeakage 15 = .ok (.aload_n 0, 1) := by decide +kernel
theorem dX2_worstLeakage_16 : decode cX2_worstLeakage 16 = .ok (.aload_n 0, 1) := by decide +kernel
theorem dX2_worstLeakage_17 : decode cX2_worstLeakage 17 = .ok (.iload_n 1, 1) := by decide +kernel
theorem dX2_worstLeakage_18 : decode cX2_worstLeakage 18 = .ok (.invokevirtual 113, 3) := by decide +kernel
theorem dX2_worstLeakage_21 : decode cX2_worstLeakage 21 = .ok (.invokevirtual 107, 3) := by decide +kernel
theorem dX2_worstLeakage_24 : decode cX2_worstLeakage 24 = .ok (.ireturn, 1) := by decide +kernel
set_option maxRecDepth 20000 in
theorem ggX2_worstSet_X2_isSize : GoodIn wsX2_worstSet wsX2_isSize := goodIn_r _ [5, 6, 49, 50, 51, 52, 53, 54, 55, 56, 57] (by decide +kernel) (by decide +kernel)
set_option maxRecDepth 20000 in
theorem gX2_worstSet_X2_isSize : GoodIn wsX2_worstSet (wsV RX2 110 RX2 yX2_isSize wsX2_isSize) := goodIn_app (goodIn_of _ (by decide +kernel)) ggX2_worstSet_X2_isSize
set_option maxRecDepth 20000 in
theorem ggX2_worstSet_X2_fail : GoodIn wsX2_worstSet wsX2_fail := goodIn_r _ [10, 11, 49, 50, 51, 52, 53] (by decide +kernel) (by decide +kernel)
set_option maxRecDepth 20000 in
theorem gX2_worstSet_X2_fail : GoodIn wsX2_worstSet (wsV RX2 35 RX2 yX2_fail wsX2_fail) := goodIn_app (goodIn_of _ (by decide +kernel)) ggX2_worstSet_X2_fail
set_option maxRecDepth 20000 in
theorem ggX2_worstSet_X2_leakiestSet : GoodIn wsX2_worstSet wsX2_leakiestSet := goodIn_r _ [15, 16, 17, 18, 4, 19, 6, 20, 21, 22, 23, 24, 25, 26, 27, 28, 29, 30, 31, 32, 33, 34, 35, 36, 37, 38, 39, 40, 41, 42, 43, 44, 45, 46, 47, 48, 49, 50, 51, 52, 53, 54, 55, 56, 57, 58, 59] (by decide +kernel) (by decide +kernel)
set_option maxRecDepth 20000 in
theorem gX2_worstSet_X2_leakiestSet : GoodIn wsX2_worstSet (wsV RX2 113 RX2 yX2_leakiestSet wsX2_leakiestSet) := goodIn_app (goodIn_of _ (by decide +kernel)) ggX2_worstSet_X2_leakiestSet
theorem dX2_worstSet_0 : decode cX2_worstSet 0 = .ok (.aload_n 0, 1) := by decide +kernel
theorem dX2_worstSet_1 : decode cX2_worstSet 1 = .ok (.iload_n 1, 1) := by decide +kernel
theorem dX2_worstSet_2 : decode cX2_worstSet 2 = .ok (.invokevirtual 110, 3) := by decide +kernel
theorem dX2_worstSet_5 : decode cX2_worstSet 5 = .ok (.ifCond .ne 10, 3) := by decide +kernel
theorem dX2_worstSet_8 : decode cX2_worstSet 8 = .ok (.aload_n 0, 1) := by decide +kernel
theorem dX2_worstSet_9 : decode cX2_worstSet 9 = .ok (.bipush (-2), 2) := by decide +kernel
theorem dX2_worstSet_11 : decode cX2_worstSet 11 = .ok (.invokevirtual 35, 3) := by decide +kernel
theorem dX2_worstSet_14 : decode cX2_worstSet 14 = .ok (.ireturn, 1) := by decide +kernel
theorem dX2_worstSet_15 : decode cX2_worstSet 15 = .ok (.aload_n 0, 1) := by decide +kernel
theorem dX2_worstSet_16 : decode cX2_worstSet 16 = .ok (.iload_n 1, 1) := by decide +kernel
theorem dX2_worstSet_17 : decode cX2_worstSet 17 = .ok (.invokevirtual 113, 3) := by decide +kernel
