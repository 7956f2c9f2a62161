theorem dX0_init_0 : decode cX0_init 0 = .ok (.aload_n 0, 1) := by decide +kernel
theorem dX0_init_1 : decode cX0_init 1 = .ok (.invokespecial 3, 3) := by decide +kernel
theorem dX0_init_4 : decode cX0_init 4 = .ok (.aload_n 0, 1) := by decide +kernel
theorem dX0_init_5 : decode cX0_init 5 = .ok (.bipush 16, 2) := by decide +kernel
theorem dX0_init_7 : decode cX0_init 7 = .ok (.bipush 97, 2) := by decide +kernel
theorem dX0_init_9 : decode cX0_init 9 = .ok (.multianewarray 11 2, 4) := by decide +kernel
theorem dX0_init_13 : decode cX0_init 13 = .ok (.putfield 13, 3) := by decide +kernel
theorem dX0_init_16 : decode cX0_init 16 = .ok (.aload_n 0, 1) := by decide +kernel
theorem dX0_init_17 : decode cX0_init 17 = .ok (.iconst 0, 1) := by decide +kernel
theorem dX0_init_18 : decode cX0_init 18 = .ok (.putfield 18, 3) := by decide +kernel
theorem dX0_init_21 : decode cX0_init 21 = .ok (.aload_n 0, 1) := by decide +kernel
theorem dX0_init_22 : decode cX0_init 22 = .ok (.iconst 0, 1) := by decide +kernel
theorem dX0_init_23 : decode cX0_init 23 = .ok (.putfield 22, 3) := by decide +kernel
theorem dX0_init_26 : decode cX0_init 26 = .ok (.return_, 1) := by decide +kernel
theorem dX0_clear_0 : decode cX0_clear 0 = .ok (.aload_n 0, 1) := by decide +kernel
theorem dX0_clear_1 : decode cX0_clear 1 = .ok (.iconst 0, 1) := by decide +kernel
theorem dX0_clear_2 : decode cX0_clear 2 = .ok (.putfield 22, 3) := by decide +kernel
theorem dX0_clear_5 : decode cX0_clear 5 = .ok (.return_, 1) := by decide +kernel
set_option maxRecDepth 20000 in
theorem ggX0_remember_X1_copyTo : GoodIn wsX0_remember wsX1_copyTo := goodIn_r _ [12, 13, 14, 15, 16, 17, 21] (by decide +kernel) (by decide +kernel)
set_option maxRecDepth 20000 in
theorem gX0_remember_X1_copyTo : GoodIn wsX0_remember (wsV RX0 25 RX1 yX1_copyTo wsX1_copyTo) := goodIn_app (goodIn_of _ (by decide +kernel)) ggX0_remember_X1_copyTo
theorem dX0_remember_0 : decode cX0_remember 0 = .ok (.aload_n 1, 1) := by decide +kernel
theorem dX0_remember_1 : decode cX0_remember 1 = .ok (.aload_n 0, 1) := by decide +kernel
theorem dX0_remember_2 : decode cX0_remember 2 = .ok (.getfield 13, 3) := by decide +kernel
theorem dX0_remember_5 : decode cX0_remember 5 = .ok (.aload_n 0, 1) := by decide +kernel
theorem dX0_remember_6 : decode cX0_remember 6 = .ok (.getfield 18, 3) := by decide +kernel
theorem dX0_remember_9 : decode cX0_remember 9 = .ok (.aaload, 1) := by decide +kernel
theorem dX0_remember_10 : decode cX0_remember 10 = .ok (.invokevirtual 25, 3) := by decide +kernel
theorem dX0_remember_13 : decode cX0_remember 13 = .ok (.aload_n 0, 1) := by decide +kernel
theorem dX0_remember_14 : decode cX0_remember 14 = .ok (.aload_n 0, 1) := by decide +kernel
theorem dX0_remember_15 : decode cX0_remember 15 = .ok (.getfield 18, 3) := by decide +kernel
theorem dX0_remember_18 : decode cX0_remember 18 = .ok (.iconst 1, 1) := by decide +kernel
theorem dX0_remember_19 : decode cX0_remember 19 = .ok (.iadd, 1) := by decide +kernel
theorem dX0_remember_20 : decode cX0_remember 20 = .ok (.bipush 16, 2) := by decide +kernel
theorem dX0_remember_22 : decode cX0_remember 22 = .ok (.irem, 1) := by decide +kernel
theorem dX0_remember_23 : decode cX0_remember 23 = .ok (.putfield 18, 3) := by decide +kernel
theorem dX0_remember_26 : decode cX0_remember 26 = .ok (.aload_n 0, 1) := by decide +kernel
theorem dX0_remember_27 : decode cX0_remember 27 = .ok (.bipush 16, 2) := by decide +kernel
theorem dX0_remember_29 : decode cX0_remember 29 = .ok (.aload_n 0, 1) := by decide +kernel
theorem dX0_remember_30 : decode cX0_remember 30 = .ok (.getfield 22, 3) := by decide +kernel
theorem dX0_remember_33 : decode cX0_remember 33 = .ok (.iconst 1, 1) := by decide +kernel
theorem dX0_remember_34 : decode cX0_remember 34 = .ok (.iadd, 1) := by decide +kernel
theorem dX0_remember_35 : decode cX0_remember 35 = .ok (.invokestatic 29, 3) := by decide +kernel
theorem dX0_remember_38 : decode cX0_remember 38 = .ok (.putfield 22, 3) := by decide +kernel
theorem dX0_remember_41 : decode cX0_remember 41 = .ok (.return_, 1) := by decide +kernel
set_option maxRecDepth 20000 in
theorem ggX0_takeBack_X1_copyFrom : GoodIn wsX0_takeBack wsX1_copyFrom := goodIn_r _ [8, 9, 10, 11, 12, 13, 17] (by decide +kernel) (by decide +kernel)
set_option maxRecDepth 20000 in
theorem gX0_takeBack_X1_copyFrom : GoodIn wsX0_takeBack (wsV RX0 35 RX1 yX1_copyFrom wsX1_copyFrom) := goodIn_app (goodIn_of _ (by decide +kernel)) ggX0_takeBack_X1_copyFrom
theorem dX0_takeBack_0 : decode cX0_takeBack 0 = .ok (.aload_n 0, 1) := by decide +kernel
theorem dX0_takeBack_1 : decode cX0_takeBack 1 = .ok (.getfield 22, 3) := by decide +kernel
theorem dX0_takeBack_4 : decode cX0_takeBack 4 = .ok (.ifCond .le 42, 3) := by decide +kernel
theorem dX0_takeBack_7 : decode cX0_takeBack 7 = .ok (.aload_n 0, 1) := by decide +kernel
theorem dX0_takeBack_8 : decode cX0_takeBack 8 = .ok (.aload_n 0, 1) := by decide +kernel
theorem dX0_takeBack_9 : decode cX0_takeBack 9 = .ok (.getfield 18, 3) := by decide +kernel
theorem dX0_takeBack_12 : decode cX0_takeBack 12 = .ok (.bipush 16, 2) := by decide +kernel
theorem dX0_takeBack_14 : decode cX0_takeBack 14 = .ok (.iadd, 1) := by decide +kernel
theorem dX0_takeBack_15 : decode cX0_takeBack 15 = .ok (.iconst 1, 1) := by decide +kernel
theorem dX0_takeBack_16 : decode cX0_takeBack 16 = .ok (.isub, 1) := by decide +kernel
theorem dX0_takeBack_17 : decode cX0_takeBack 17 = .ok (.bipush 16, 2) := by decide +kernel
theorem dX0_takeBack_19 : decode cX0_takeBack 19 = .ok (.irem, 1) := by decide +kernel
theorem dX0_takeBack_20 : decode cX0_takeBack 20 = .ok (.putfield 18, 3) := by decide +kernel
theorem dX0_takeBack_23 : decode cX0_takeBack 23 = .ok (.aload_n 0, 1) := by decide +kernel
theorem dX0_takeBack_24 : decode cX0_takeBack 24 = .ok (.dup, 1) := by decide +kernel
theorem dX0_takeBack_25 : decode cX0_takeBack 25 = .ok (.getfield 22, 3) := by decide +kernel
theorem dX0_takeBack_28 : decode cX0_takeBack 28 = .ok (.iconst 1, 1) := by decide +kernel
theorem dX0_takeBack_29 : decode cX0_takeBack 29 = .ok (.isub, 1) := by decide +kernel
theorem dX0_takeBack_30 : decode cX0_takeBack 30 = .ok (.putfield 22, 3) := by decide +kernel
theorem dX0_takeBack_33 : decode cX0_takeBack 33 = .ok (.aload_n 1, 1) := by decide +kernel
theorem dX0_takeBack_34 : decode cX0_takeBack 34 = .ok (.aload_n 0, 1) := by decide +kernel
theorem dX0_takeBack_35 : decode cX0_takeBack 35 = .ok (.getfield 13, 3) := by decide +kernel
theorem dX0_takeBack_38 : decode cX0_takeBack 38 = .ok (.aload_n 0, 1) := by decide +kernel
theorem dX0_takeBack_39 : decode cX0_takeBack 39 = .ok (.getfield 18, 3) := by decide +kernel
theorem dX0_takeBack_42 : decode cX0_takeBack 42 = .ok (.aaload, 1) := by decide +kernel
theorem dX0_takeBack_43 : decode cX0_takeBack 43 = .ok (.invokevirtual 35, 3) := by decide +kernel
theorem dX0_takeBack_46 : decode cX0_takeBack 46 = .ok (.return_, 1) := by decide +kernel
theorem dX1_init_0 : decode cX1_init 0 = .ok (.aload_n 0, 1) := by decide +kernel
theorem dX1_init_1 : decode cX1_init 1 = .ok (.invokespecial 5, 3) := by decide +kernel
theorem dX1_init_4 : decode cX1_init 4 = .ok (.aload_n 0, 1) := by decide +kernel
theorem dX1_init_5 : decode cX1_init 5 = .ok (.bipush 97, 2) := by decide +kernel
theorem dX1_init_7 : decode cX1_init 7 = .ok (.newarray .int, 2) := by decide +kernel
theorem dX1_init_9 : decode cX1_init 9 = .ok (.putfield 11, 3) := by decide +kernel
theorem dX1_init_12 : decode cX1_init 12 = .ok (.return_, 1) := by decide +kernel
theorem dX1_clear_0 : decode cX1_clear 0 = .ok (.iconst 0, 1) := by decide +kernel
theorem dX1_clear_1 : decode cX1_clear 1 = .ok (.istore_n 1, 1) := by decide +kernel
theorem dX1_clear_2 : decode cX1_clear 2 = .ok (.iload_n 1, 1) := by decide +kernel
theorem dX1_clear_3 : decode cX1_clear 3 = .ok (.bipush 97, 2) := by decide +kernel
theorem dX1_clear_5 : decode cX1_clear 5 = .ok (.if_icmp .ge 16, 3) := by decide +kernel
theorem dX1_clear_8 : decode cX1_clear 8 = .ok (.aload_n 0, 1) := by decide +kernel
theorem dX1_clear_9 : decode cX1_clear 9 = .ok (.getfield 11, 3) := by decide +kernel
theorem dX1_clear_12 : decode cX1_clear 12 = .ok (.iload_n 1, 1) := by decide +kernel
theorem dX1_clear_13 : decode cX1_clear 13 = .ok (.iconst 0, 1) := by decide +kernel
theorem dX1_clear_14 : decode cX1_clear 14 = .ok (.iastore, 1) := by decide +kernel
theorem dX1_clear_15 : decode cX1_clear 15 = .ok (.iinc 1 1, 3) := by decide +kernel
theorem dX1_clear_18 : decode cX1_clear 18 = .ok (.goto (-16), 3) := by decide +kernel
theorem dX1_clear_21 : decode cX1_clear 21 = .ok (.return_, 1) := by decide +kernel
theorem dX1_copyTo_0 : decode cX1_copyTo 0 = .ok (.aload_n 1, 1) := by decide +kernel
theorem dX1_copyTo_1 : decode cX1_copyTo 1 = .ok (.arraylength, 1) := by decide +kernel
theorem dX1_copyTo_2 : decode cX1_copyTo 2 = .ok (.bipush 97, 2) := by decide +kernel
theorem dX1_copyTo_4 : decode cX1_copyTo 4 = .ok (.if_icmp .ne 15, 3) := by decide +kernel
theorem dX1_copyTo_7 : decode cX1_copyTo 7 = .ok (.aload_n 0, 1) := by decide +kernel
theorem dX1_copyTo_8 : decode cX1_copyTo 8 = .ok (.getfield 11, 3) := by decide +kernel
theorem dX1_copyTo_11 : decode cX1_copyTo 11 = .ok (.iconst 0, 1) := by decide +kernel
theorem dX1_copyTo_12 : decode cX1_copyTo 12 = .ok (.aload_n 1, 1) := by decide +kernel
theorem dX1_copyTo_13 : decode cX1_copyTo 13 = .ok (.iconst 0, 1) := by decide +kernel
theorem dX1_copyTo_14 : decode cX1_copyTo 14 = .ok (.bipush 97, 2) := by decide +kernel
theorem dX1_copyTo_16 : decode cX1_copyTo 16 = .ok (.invokestatic 15, 3) := by decide +kernel
theorem dX1_copyTo_19 : decode cX1_copyTo 19 = .ok (.return_, 1) := by decide +kernel
theorem dX1_copyFrom_0 : decode cX1_copyFrom 0 = .ok (.aload_n 1, 1) := by decide +kernel
theorem dX1_copyFrom_1 : decode cX1_copyFrom 1 = .ok (.arraylength, 1) := by decide +kernel
theorem dX1_copyFrom_2 : decode cX1_copyFrom 2 = .ok (.bipush 97, 2) := by decide +kernel
theorem dX1_copyFrom_4 : decode cX1_copyFrom 4 = .ok (.if_icmp .ne 15, 3) := by decide +kernel
theorem dX1_copyFrom_7 : decode cX1_copyFrom 7 = .ok (.aload_n 1, 1) := by decide +kernel
theorem dX1_copyFrom_8 : decode cX1_copyFrom 8 = .ok (.iconst 0, 1) := by decide +kernel
theorem dX1_copyFrom_9 : decode cX1_copyFrom 9 = .ok (.aload_n 0, 1) := by decide +kernel
theorem dX1_copyFrom_10 : decode cX1_copyFrom 10 = .ok (.getfield 11, 3) := by decide +kernel
theorem dX1_copyFrom_13 : decode cX1_copyFrom 13 = .ok (.iconst 0, 1) := by decide +kernel
theorem dX1_copyFrom_14 : decode cX1_copyFrom 14 = .ok (.bipush 97, 2) := by decide +kernel
theorem dX1_copyFrom_16 : decode cX1_copyFrom 16 = .ok (.invokestatic 15, 3) := by decide +kernel
theorem dX1_copyFrom_19 : decode cX1_copyFrom 19 = .ok (.return_, 1) := by decide +kernel
theorem dX1_dinners_0 : decode cX1_dinners 0 = .ok (.aload_n 0, 1) := by decide +kernel
theorem dX1_dinners_1 : decode cX1_dinners 1 = .ok (.getfield 11, 3) := by decide +kernel
theorem dX1_dinners_4 : decode cX1_dinners 4 = .ok (.iconst 0, 1) := by decide +kernel
theorem dX1_dinners_5 : decode cX1_dinners 5 = .ok (.iaload, 1) := by decide +kernel
theorem dX1_dinners_6 : decode cX1_dinners 6 = .ok (.ireturn, 1) := by decide +kernel
theorem dX1_countDinner_0 : decode cX1_countDinner 0 = .ok (.aload_n 0, 1) := by decide +kernel
theorem dX1_countDinner_1 : decode cX1_countDinner 1 = .ok (.getfield 11, 3) := by decide +kernel
theorem dX1_countDinner_4 : decode cX1_countDinner 4 = .ok (.iconst 0, 1) := by decide +kernel
theorem dX1_countDinner_5 : decode cX1_countDinner 5 = .ok (.dup2, 1) := by decide +kernel
theorem dX1_countDinner_6 : decode cX1_countDinner 6 = .ok (.iaload, 1) := by decide +kernel
theorem dX1_countDinner_7 : decode cX1_countDinner 7 = .ok (.iconst 1, 1) := by decide +kernel
theorem dX1_countDinner_8 : decode cX1_countDinner 8 = .ok (.iadd, 1) := by decide +kernel
theorem dX1_countDinner_9 : decode cX1_countDinner 9 = .ok (.iastore, 1) := by decide +kernel
theorem dX1_countDinner_10 : decode cX1_countDinner 10 = .ok (.return_, 1) := by decide +kernel
set_option maxRecDepth 20000 in
theorem ggX1_knotsOf_X1_isRoom : GoodIn wsX1_knotsOf wsX1_isRoom := goodIn_r _ [5] (by decide +kernel) (by decide +kernel)
set_option maxRecDepth 20000 in
theorem gX1_knotsOf_X1_isRoom : GoodIn wsX1_knotsOf (va_wsS RX1 21 yX1_isRoom wsX1_isRoom) := goodIn_app (goodIn_of _ (by decide +kernel)) ggX1_knotsOf_X1_isRoom
theorem dX1_knotsOf_0 : decode cX1_knotsOf 0 = .ok (.iload_n 1, 1) := by decide +kernel
theorem dX1_knotsOf_1 : decode cX1_knotsOf 1 = .ok (.invokestatic 21, 3) := by decide +kernel
theorem dX1_knotsOf_4 : decode cX1_knotsOf 4 = .ok (.ifCond .eq 14, 3) := by decide +kernel
theorem dX1_knotsOf_7 : decode cX1_knotsOf 7 = .ok (.aload_n 0, 1) := by decide +kernel
theorem dX1_knotsOf_8 : decode cX1_knotsOf 8 = .ok (.getfield 11, 3) := by decide +kernel
theorem dX1_knotsOf_11 : decode cX1_knotsOf 11 = .ok (.iconst 1, 1) := by decide +kernel
theorem dX1_knotsOf_12 : decode cX1_knotsOf 12 = .ok (.iload_n 1, 1) := by decide +kernel
theorem dX1_knotsOf_13 : decode cX1_knotsOf 13 = .ok (.iadd, 1) := by decide +kernel
theorem dX1_knotsOf_14 : decode cX1_knotsOf 14 = .ok (.iaload, 1) := by decide +kernel
theorem dX1_knotsOf_15 : decode cX1_knotsOf 15 = .ok (.goto 4, 3) := by decide +kernel
theorem dX1_knotsOf_18 : decode cX1_knotsOf 18 = .ok (.iconst 0, 1) := by decide +kernel
theorem dX1_knotsOf_19 : decode cX1_knotsOf 19 = .ok (.ireturn, 1) := by decide +kernel
set_option maxRecDepth 20000 in
theorem ggX1_stepsOf_X1_isRoom : GoodIn wsX1_stepsOf wsX1_isRoom := goodIn_r _ [5] (by decide +kernel) (by decide +kernel)
set_option maxRecDepth 20000 in
theorem gX1_stepsOf_X1_isRoom : GoodIn wsX1_stepsOf (va_wsS RX1 21 yX1_isRoom wsX1_isRoom) := goodIn_app (goodIn_of _ (by decide +kernel)) ggX1_stepsOf_X1_isRoom
theorem dX1_stepsOf_0 : decode cX1_stepsOf 0 = .ok (.iload_n 1, 1) := by decide +kernel
theorem dX1_stepsOf_1 : decode cX1_stepsOf 1 = .ok (.invokestatic 21, 3) := by decide +kernel
theorem dX1_stepsOf_4 : decode cX1_stepsOf 4 = .ok (.ifCond .eq 14, 3) := by decide +kernel
theorem dX1_stepsOf_7 : decode cX1_stepsOf 7 = .ok (.aload_n 0, 1) := by decide +kernel
theorem dX1_stepsOf_8 : decode cX1_stepsOf 8 = .ok (.getfield 11, 3) := by decide +kernel
theorem dX1_stepsOf_11 : decode cX1_stepsOf 11 = .ok (.iconst 4, 1) := by decide +kernel
theorem dX1_stepsOf_12 : decode cX1_stepsOf 12 = .ok (.iload_n 1, 1) := by decide +kernel
theorem dX1_stepsOf_13 : decode cX1_stepsOf 13 = .ok (.iadd, 1) := by decide +kernel
theorem dX1_stepsOf_14 : decode cX1_stepsOf 14 = .ok (.iaload, 1) := by decide +kernel
theorem dX1_stepsOf_15 : decode cX1_stepsOf 15 = .ok (.goto 4, 3) := by decide +kernel
theorem dX1_stepsOf_18 : decode cX1_stepsOf 18 = .ok (.iconst 0, 1) := by decide +kernel
theorem dX1_stepsOf_19 : decode cX1_stepsOf 19 = .ok (.ireturn, 1) := by decide +kernel
set_option maxRecDepth 20000 in
theorem ggX1_knotAt_X1_knotsOf : GoodIn wsX1_knotAt wsX1_knotsOf := goodIn_r _ [6, 1, 7, 8, 5, 9, 13] (by decide +kernel) (by decide +kernel)
set_option maxRecDepth 20000 in
theorem gX1_knotAt_X1_knotsOf : GoodIn wsX1_knotAt (wsV RX1 25 RX1 yX1_knotsOf wsX1_knotsOf) := goodIn_app (goodIn_of _ (by decide +kernel)) ggX1_knotAt_X1_knotsOf
set_option maxRecDepth 20000 in
theorem ggX1_knotAt_X1_firstCell : GoodIn wsX1_knotAt wsX1_firstCell := goodIn_r _ [12] (by decide +kernel) (by decide +kernel)
set_option maxRecDepth 20000 in
theorem gX1_knotAt_X1_firstCell : GoodIn wsX1_knotAt (va_wsS RX1 29 yX1_firstCell wsX1_firstCell) := goodIn_app (goodIn_of _ (by decide +kernel)) ggX1_knotAt_X1_firstCell
theorem dX1_knotAt_0 : decode cX1_knotAt 0 = .ok (.iload_n 2, 1) := by decide +kernel
theorem dX1_knotAt_1 : decode cX1_knotAt 1 = .ok (.ifCond .lt 26, 3) := by decide +kernel
theorem dX1_knotAt_4 : decode cX1_knotAt 4 = .ok (.iload_n 2, 1) := by decide +kernel
theorem dX1_knotAt_5 : decode cX1_knotAt 5 = .ok (.aload_n 0, 1) := by decide +kernel
theorem dX1_knotAt_6 : decode cX1_knotAt 6 = .ok (.iload_n 1, 1) := by decide +kernel
theorem dX1_knotAt_7 : decode cX1_knotAt 7 = .ok (.invokevirtual 25, 3) := by decide +kernel
theorem dX1_knotAt_10 : decode cX1_knotAt 10 = .ok (.if_icmp .ge 17, 3) := by decide +kernel
theorem dX1_knotAt_13 : decode cX1_knotAt 13 = .ok (.aload_n 0, 1) := by decide +kernel
theorem dX1_knotAt_14 : decode cX1_knotAt 14 = .ok (.getfield 11, 3) := by decide +kernel
theorem dX1_knotAt_17 : decode cX1_knotAt 17 = .ok (.iload_n 1, 1) := by decide +kernel
theorem dX1_knotAt_18 : decode cX1_knotAt 18 = .ok (.invokestatic 29, 3) := by decide +kernel
theorem dX1_knotAt_21 : decode cX1_knotAt 21 = .ok (.iload_n 2, 1) := by decide +kernel
theorem dX1_knotAt_22 : decode cX1_knotAt 22 = .ok (.iadd, 1) := by decide +kernel
theorem dX1_knotAt_23 : decode cX1_knotAt 23 = .ok (.iaload, 1) := by decide +kernel
theorem dX1_knotAt_24 : decode cX1_knotAt 24 = .ok (.goto 5, 3) := by decide +kernel
theorem dX1_knotAt_27 : decode cX1_knotAt 27 = .ok (.bipush (-9), 2) := by decide +kernel
theorem dX1_knotAt_29 : decode cX1_knotAt 29 = .ok (.ireturn, 1) := by decide +kernel
set_option maxRecDepth 20000 in
theorem ggX1_redOf_X1_knotsOf : GoodIn wsX1_redOf wsX1_knotsOf := goodIn_r _ [5, 6, 7, 8, 4, 9, 17] (by decide +kernel) (by decide +kernel)
set_option maxRecDepth 20000 in
theorem gX1_redOf_X1_knotsOf : GoodIn wsX1_redOf (wsV RX1 25 RX1 yX1_knotsOf wsX1_knotsOf) := goodIn_app (goodIn_of _ (by decide +kernel)) ggX1_redOf_X1_knotsOf
set_option maxRecDepth 20000 in
theorem ggX1_redOf_X1_knotAt : GoodIn wsX1_redOf wsX1_knotAt := goodIn_r _ [13, 6, 1, 2, 3, 4, 5, 7, 8, 9, 14, 15, 16, 17] (by decide +kernel) (by decide +kernel)
set_option maxRecDepth 20000 in
theorem gX1_redOf_X1_knotAt : GoodIn wsX1_redOf (wsV RX1 32 RX1 yX1_knotAt wsX1_knotAt) := goodIn_app (goodIn_of _ (by decide +kernel)) ggX1_redOf_X1_knotAt
theorem dX1_redOf_0 : decode cX1_redOf 0 = .ok (.iconst 0, 1) := by decide +kernel
theorem dX1_redOf_1 : decode cX1_redOf 1 = .ok (.istore_n 2, 1) := by decide +kernel
theorem dX1_redOf_2 : decode cX1_redOf 2 = .ok (.aload_n 0, 1) := by decide +kernel
theorem dX1_redOf_3 : decode cX1_redOf 3 = .ok (.iload_n 1, 1) := by decide +kernel
theorem dX1_redOf_4 : decode cX1_redOf 4 = .ok (.invokevirtual 25, 3) := by decide +kernel
theorem dX1_redOf_7 : decode cX1_redOf 7 = .ok (.istore_n 3, 1) := by decide +kernel
theorem dX1_redOf_8 : decode cX1_redOf 8 = .ok (.iconst 0, 1) := by decide +kernel
theorem dX1_redOf_9 : decode cX1_redOf 9 = .ok (.istore 4, 2) := by decide +kernel
theorem dX1_redOf_11 : decode cX1_redOf 11 = .ok (.iload 4, 2) := by decide +kernel
theorem dX1_redOf_13 : decode cX1_redOf 13 = .ok (.iload_n 3, 1) := by decide +kernel
theorem dX1_redOf_14 : decode cX1_redOf 14 = .ok (.if_icmp .ge 21, 3) := by decide +kernel
theorem dX1_redOf_17 : decode cX1_redOf 17 = .ok (.iload_n 2, 1) := by decide +kernel
theorem dX1_redOf_18 : decode cX1_redOf 18 = .ok (.aload_n 0, 1) := by decide +kernel
theorem dX1_redOf_19 : decode cX1_redOf 19 = .ok (.iload_n 1, 1) := by decide +kernel
theorem dX1_redOf_20 : decode cX1_redOf 20 = .ok (.iload 4, 2) := by decide +kernel
theorem dX1_redOf_22 : decode cX1_redOf 22 = .ok (.invokevirtual 32, 3) := by decide +kernel
theorem dX1_redOf_25 : decode cX1_redOf 25 = .ok (.iconst 1, 1) := by decide +kernel
theorem dX1_redOf_26 : decode cX1_redOf 26 = .ok (.iand, 1) := by decide +kernel
theorem dX1_redOf_27 : decode cX1_redOf 27 = .ok (.iadd, 1) := by decide +kernel
theorem dX1_redOf_28 : decode cX1_redOf 28 = .ok (.istore_n 2, 1) := by decide +kernel
theorem dX1_redOf_29 : decode cX1_redOf 29 = .ok (.iinc 4 1, 3) := by decide +kernel
theorem dX1_redOf_32 : decode cX1_redOf 32 = .ok (.goto (-21), 3) := by decide +kernel
theorem dX1_redOf_35 : decode cX1_redOf 35 = .ok (.iload_n 2, 1) := by decide +kernel
theorem dX1_redOf_36 : decode cX1_redOf 36 = .ok (.ireturn, 1) := by decide +kernel
set_option maxRecDepth 20000 in
theorem ggX1_knotsBy_X1_knotsOf : GoodIn wsX1_knotsBy wsX1_knotsOf := goodIn_r _ [5, 6, 7, 8, 4, 9, 17] (by decide +kernel) (by decide +kernel)
set_option maxRecDepth 20000 in
theorem gX1_knotsBy_X1_knotsOf : GoodIn wsX1_knotsBy (wsV RX1 25 RX1 yX1_knotsOf wsX1_knotsOf) := goodIn_app (goodIn_of _ (by decide +kernel)) ggX1_knotsBy_X1_knotsOf
set_option maxRecDepth 20000 in
theorem ggX1_knotsBy_X1_knotAt : GoodIn wsX1_knotsBy wsX1_knotAt := goodIn_r _ [13, 6, 1, 2, 3, 4, 5, 7, 8, 9, 14, 15, 16, 17] (by decide +kernel) (by decide +kernel)
set_option maxRecDepth 20000 in
theorem gX1_knotsBy_X1_knotAt : GoodIn wsX1_knotsBy (wsV RX1 32 RX1 yX1_knotAt wsX1_knotAt) := goodIn_app (goodIn_of _ (by decide +kernel)) ggX1_knotsBy_X1_knotAt
theorem dX1_knotsBy_0 : decode cX1_knotsBy 0 = .ok (.iconst 0, 1) := by decide +kernel
theorem dX1_knotsBy_1 : decode cX1_knotsBy 1 = .ok (.istore_n 3, 1) := by decide +kernel
theorem dX1_knotsBy_2 : decode cX1_knotsBy 2 = .ok (.aload_n 0, 1) := by decide +kernel
theorem dX1_knotsBy_3 : decode cX1_knotsBy 3 = .ok (.iload_n 2, 1) := by decide +kernel
theorem dX1_knotsBy_4 : decode cX1_knotsBy 4 = .ok (.invokevirtual 25, 3) := by decide +kernel
theorem dX1_knotsBy_7 : decode cX1_knotsBy 7 = .ok (.istore 4, 2) := by decide +kernel
theorem dX1_knotsBy_9 : decode cX1_knotsBy 9 = .ok (.iconst 0, 1) := by decide +kernel
theorem dX1_knotsBy_10 : decode cX1_knotsBy 10 = .ok (.istore 5, 2) := by decide +kernel
theorem dX1_knotsBy_12 : decode cX1_knotsBy 12 = .ok (.iload 5, 2) := by decide +kernel
theorem dX1_knotsBy_14 : decode cX1_knotsBy 14 = .ok (.iload 4, 2) := by decide +kernel
theorem dX1_knotsBy_16 : decode cX1_knotsBy 16 = .ok (.if_icmp .ge 25, 3) := by decide +kernel
theorem dX1_knotsBy_19 : decode cX1_knotsBy 19 = .ok (.aload_n 0, 1) := by decide +kernel
theorem dX1_knotsBy_20 : decode cX1_knotsBy 20 = .ok (.iload_n 2, 1) := by decide +kernel
theorem dX1_knotsBy_21 : decode cX1_knotsBy 21 = .ok (.iload 5, 2) := by decide +kernel
theorem dX1_knotsBy_23 : decode cX1_knotsBy 23 = .ok (.invokevirtual 32, 3) := by decide +kernel
theorem dX1_knotsBy_26 : decode cX1_knotsBy 26 = .ok (.iconst 1, 1) := by decide +kernel
theorem dX1_knotsBy_27 : decode cX1_knotsBy 27 = .ok (.ishr, 1) := by decide +kernel
theorem dX1_knotsBy_28 : decode cX1_knotsBy 28 = .ok (.iload_n 1, 1) := by decide +kernel
theorem dX1_knotsBy_29 : decode cX1_knotsBy 29 = .ok (.if_icmp .ne 6, 3) := by decide +kernel
theorem dX1_knotsBy_32 : decode cX1_knotsBy 32 = .ok (.iinc 3 1, 3) := by decide +kernel
theorem dX1_knotsBy_35 : decode cX1_knotsBy 35 = .ok (.iinc 5 1, 3) := by decide +kernel
theorem dX1_knotsBy_38 : decode cX1_knotsBy 38 = .ok (.goto (-26), 3) := by decide +kernel
theorem dX1_knotsBy_41 : decode cX1_knotsBy 41 = .ok (.iload_n 3, 1) := by decide +kernel
theorem dX1_knotsBy_42 : decode cX1_knotsBy 42 = .ok (.ireturn, 1) := by decide +kernel
set_option maxRecDepth 20000 in
theorem ggX1_weave_X1_knotsOf : GoodIn wsX1_weave wsX1_knotsOf := goodIn_r _ [6, 1, 7, 8, 5, 9, 13] (by decide +kernel) (by decide +kernel)
set_option maxRecDepth 20000 in
theorem gX1_weave_X1_knotsOf : GoodIn wsX1_weave (wsV RX1 25 RX1 yX1_knotsOf wsX1_knotsOf) := goodIn_app (goodIn_of _ (by decide +kernel)) ggX1_weave_X1_knotsOf
set_option maxRecDepth 20000 in
theorem ggX1_weave_X1_isRoom : GoodIn wsX1_weave wsX1_isRoom := goodIn_r _ [9] (by decide +kernel) (by decide +kernel)
set_option maxRecDepth 20000 in
theorem gX1_weave_X1_isRoom : GoodIn wsX1_weave (va_wsS RX1 21 yX1_isRoom wsX1_isRoom) := goodIn_app (goodIn_of _ (by decide +kernel)) ggX1_weave_X1_isRoom
set_option maxRecDepth 20000 in
theorem ggX1_weave_X1_firstCell : GoodIn wsX1_weave wsX1_firstCell := goodIn_r _ [12] (by decide +kernel) (by decide +kernel)
set_option maxRecDepth 20000 in
theorem gX1_weave_X1_firstCell : GoodIn wsX1_weave (va_wsS RX1 29 yX1_firstCell wsX1_firstCell) := goodIn_app (goodIn_of _ (by decide +kernel)) ggX1_weave_X1_firstCell
theorem dX1_weave_0 : decode cX1_weave 0 = .ok (.aload_n 0, 1) := by decide +kernel
theorem dX1_weave_1 : decode cX1_weave 1 = .ok (.iload_n 1, 1) := by decide +kernel
theorem dX1_weave_2 : decode cX1_weave 2 = .ok (.invokevirtual 25, 3) := by decide +kernel
theorem dX1_weave_5 : decode cX1_weave 5 = .ok (.istore_n 3, 1) := by decide +kernel
theorem dX1_weave_6 : decode cX1_weave 6 = .ok (.iload_n 1, 1) := by decide +kernel
theorem dX1_weave_7 : decode cX1_weave 7 = .ok (.invokestatic 21, 3) := by decide +kernel
theorem dX1_weave_10 : decode cX1_weave 10 = .ok (.ifCond .eq 32, 3) := by decide +kernel
theorem dX1_weave_13 : decode cX1_weave 13 = .ok (.iload_n 3, 1) := by decide +kernel
theorem dX1_weave_14 : decode cX1_weave 14 = .ok (.bipush 30, 2) := by decide +kernel
theorem dX1_weave_16 : decode cX1_weave 16 = .ok (.if_icmp .ge 26, 3) := by decide +kernel
theorem dX1_weave_19 : decode cX1_weave 19 = .ok (.aload_n 0, 1) := by decide +kernel
theorem dX1_weave_20 : decode cX1_weave 20 = .ok (.getfield 11, 3) := by decide +kernel
theorem dX1_weave_23 : decode cX1_weave 23 = .ok (.iload_n 1, 1) := by decide +kernel
theorem dX1_weave_24 : decode cX1_weave 24 = .ok (.invokestatic 29, 3) := by decide +kernel
theorem dX1_weave_27 : decode cX1_weave 27 = .ok (.iload_n 3, 1) := by decide +kernel
theorem dX1_weave_28 : decode cX1_weave 28 = .ok (.iadd, 1) := by decide +kernel
theorem dX1_weave_29 : decode cX1_weave 29 = .ok (.iload_n 2, 1) := by decide +kernel
theorem dX1_weave_30 : decode cX1_weave 30 = .ok (.iastore, 1) := by decide +kernel
theorem dX1_weave_31 : decode cX1_weave 31 = .ok (.aload_n 0, 1) := by decide +kernel
theorem dX1_weave_32 : decode cX1_weave 32 = .ok (.getfield 11, 3) := by decide +kernel
theorem dX1_weave_35 : decode cX1_weave 35 = .ok (.iconst 1, 1) := by decide +kernel
theorem dX1_weave_36 : decode cX1_weave 36 = .ok (.iload_n 1, 1) := by decide +kernel
theorem dX1_weave_37 : decode cX1_weave 37 = .ok (.iadd, 1) := by decide +kernel
theorem dX1_weave_38 : decode cX1_weave 38 = .ok (.iload_n 3, 1) := by decide +kernel
theorem dX1_weave_39 : decode cX1_weave 39 = .ok (.iconst 1, 1) := by decide +kernel
theorem dX1_weave_40 : decode cX1_weave 40 = .ok (.iadd, 1) := by decide +kernel
theorem dX1_weave_41 : decode cX1_weave 41 = .ok (.iastore, 1) := by decide +kernel
theorem dX1_weave_42 : decode cX1_weave 42 = .ok (.return_, 1) := by decide +kernel
set_option maxRecDepth 20000 in
theorem ggX1_step_X1_isRoom : GoodIn wsX1_step wsX1_isRoom := goodIn_r _ [5] (by decide +kernel) (by decide +kernel)
set_option maxRecDepth 20000 in
theorem gX1_step_X1_isRoom : GoodIn wsX1_step (va_wsS RX1 21 yX1_isRoom wsX1_isRoom) := goodIn_app (goodIn_of _ (by decide +kernel)) ggX1_step_X1_isRoom
set_option maxRecDepth 20000 in
theorem ggX1_step_X1_loseFirst : GoodIn wsX1_step wsX1_loseFirst := goodIn_r _ [9, 1, 10, 11, 12, 13, 14, 15, 16, 4, 17, 2, 3, 5, 18, 19, 20, 21] (by decide +kernel) (by decide +kernel)
set_option maxRecDepth 20000 in
theorem gX1_step_X1_loseFirst : GoodIn wsX1_step (wsV RX1 36 RX1 yX1_loseFirst wsX1_loseFirst) := goodIn_app (goodIn_of _ (by decide +kernel)) ggX1_step_X1_loseFirst
theorem dX1_step_0 : decode cX1_step 0 = .ok (.iload_n 1, 1) := by decide +kernel
theorem dX1_step_1 : decode cX1_step 1 = .ok (.invokestatic 21, 3) := by decide +kernel
theorem dX1_step_4 : decode cX1_step 4 = .ok (.ifCond .ne 4, 3) := by decide +kernel
theorem dX1_step_7 : decode cX1_step 7 = .ok (.return_, 1) := by decide +kernel
theorem dX1_step_8 : decode cX1_step 8 = .ok (.aload_n 0, 1) := by decide +kernel
theorem dX1_step_9 : decode cX1_step 9 = .ok (.getfield 11, 3) := by decide +kernel
theorem dX1_step_12 : decode cX1_step 12 = .ok (.iconst 4, 1) := by decide +kernel
theorem dX1_step_13 : decode cX1_step 13 = .ok (.iload_n 1, 1) := by decide +kernel
theorem dX1_step_14 : decode cX1_step 14 = .ok (.iadd, 1) := by decide +kernel
theorem dX1_step_15 : decode cX1_step 15 = .ok (.dup2, 1) := by decide +kernel
theorem dX1_step_16 : decode cX1_step 16 = .ok (.iaload, 1) := by decide +kernel
theorem dX1_step_17 : decode cX1_step 17 = .ok (.iconst 1, 1) := by decide +kernel
theorem dX1_step_18 : decode cX1_step 18 = .ok (.iadd, 1) := by decide +kernel
theorem dX1_step_19 : decode cX1_step 19 = .ok (.iastore, 1) := by decide +kernel
theorem dX1_step_20 : decode cX1_step 20 = .ok (.aload_n 0, 1) := by decide +kernel
theorem dX1_step_21 : decode cX1_step 21 = .ok (.getfield 11, 3) := by decide +kernel
theorem dX1_step_24 : decode cX1_step 24 = .ok (.iconst 4, 1) := by decide +kernel
theorem dX1_step_25 : decode cX1_step 25 = .ok (.iload_n 1, 1) := by decide +kernel
theorem dX1_step_26 : decode cX1_step 26 = .ok (.iadd, 1) := by decide +kernel
theorem dX1_step_27 : decode cX1_step 27 = .ok (.iaload, 1) := by decide +kernel
theorem dX1_step_28 : decode cX1_step 28 = .ok (.iconst 4, 1) := by decide +kernel
theorem dX1_step_29 : decode cX1_step 29 = .ok (.if_icmp .lt 17, 3) := by decide +kernel
theorem dX1_step_32 : decode cX1_step 32 = .ok (.aload_n 0, 1) := by decide +kernel
theorem dX1_step_33 : decode cX1_step 33 = .ok (.getfield 11, 3) := by decide +kernel
theorem dX1_step_36 : decode cX1_step 36 = .ok (.iconst 4, 1) := by decide +kernel
theorem dX1_step_37 : decode cX1_step 37 = .ok (.iload_n 1, 1) := by decide +kernel
theorem dX1_step_38 : decode cX1_step 38 = .ok (.iadd, 1) := by decide +kernel
theorem dX1_step_39 : decode cX1_step 39 = .ok (.iconst 0, 1) := by decide +kernel
theorem dX1_step_40 : decode cX1_step 40 = .ok (.iastore, 1) := by decide +kernel
theorem dX1_step_41 : decode cX1_step 41 = .ok (.aload_n 0, 1) := by decide +kernel
theorem dX1_step_42 : decode cX1_step 42 = .ok (.iload_n 1, 1) := by decide +kernel
theorem dX1_step_43 : decode cX1_step 43 = .ok (.invokevirtual 36, 3) := by decide +kernel
theorem dX1_step_46 : decode cX1_step 46 = .ok (.return_, 1) := by decide +kernel
set_option maxRecDepth 20000 in
theorem ggX1_loseFirst_X1_knotsOf : GoodIn wsX1_loseFirst wsX1_knotsOf := goodIn_r _ [10, 1, 11, 12, 9, 13, 17] (by decide +kernel) (by decide +kernel)
set_option maxRecDepth 20000 in
theorem gX1_loseFirst_X1_knotsOf : GoodIn wsX1_loseFirst (wsV RX1 25 RX1 yX1_knotsOf wsX1_knotsOf) := goodIn_app (goodIn_of _ (by decide +kernel)) ggX1_loseFirst_X1_knotsOf
set_option maxRecDepth 20000 in
theorem ggX1_loseFirst_X1_firstCell : GoodIn wsX1_loseFirst wsX1_firstCell := goodIn_r _ [16] (by decide +kernel) (by decide +kernel)
set_option maxRecDepth 20000 in
theorem gX1_loseFirst_X1_firstCell : GoodIn wsX1_loseFirst (va_wsS RX1 29 yX1_firstCell wsX1_firstCell) := goodIn_app (goodIn_of _ (by decide +kernel)) ggX1_loseFirst_X1_firstCell
theorem dX1_loseFirst_0 : decode cX1_loseFirst 0 = .ok (.aload_n 0, 1) := by decide +kernel
theorem dX1_loseFirst_1 : decode cX1_loseFirst 1 = .ok (.iload_n 1, 1) := by decide +kernel
theorem dX1_loseFirst_2 : decode cX1_loseFirst 2 = .ok (.invokevirtual 25, 3) := by decide +kernel
theorem dX1_loseFirst_5 : decode cX1_loseFirst 5 = .ok (.istore_n 2, 1) := by decide +kernel
theorem dX1_loseFirst_6 : decode cX1_loseFirst 6 = .ok (.iload_n 2, 1) := by decide +kernel
theorem dX1_loseFirst_7 : decode cX1_loseFirst 7 = .ok (.ifCond .le 37, 3) := by decide +kernel
theorem dX1_loseFirst_10 : decode cX1_loseFirst 10 = .ok (.iload_n 1, 1) := by decide +kernel
theorem dX1_loseFirst_11 : decode cX1_loseFirst 11 = .ok (.invokestatic 29, 3) := by decide +kernel
theorem dX1_loseFirst_14 : decode cX1_loseFirst 14 = .ok (.istore_n 3, 1) := by decide +kernel
theorem dX1_loseFirst_15 : decode cX1_loseFirst 15 = .ok (.aload_n 0, 1) := by decide +kernel
theorem dX1_loseFirst_16 : decode cX1_loseFirst 16 = .ok (.getfield 11, 3) := by decide +kernel
theorem dX1_loseFirst_19 : decode cX1_loseFirst 19 = .ok (.iload_n 3, 1) := by decide +kernel
theorem dX1_loseFirst_20 : decode cX1_loseFirst 20 = .ok (.iconst 1, 1) := by decide +kernel
theorem dX1_loseFirst_21 : decode cX1_loseFirst 21 = .ok (.iadd, 1) := by decide +kernel
theorem dX1_loseFirst_22 : decode cX1_loseFirst 22 = .ok (.aload_n 0, 1) := by decide +kernel
theorem dX1_loseFirst_23 : decode cX1_loseFirst 23 = .ok (.getfield 11, 3) := by decide +kernel
theorem dX1_loseFirst_26 : decode cX1_loseFirst 26 = .ok (.iload_n 3, 1) := by decide +kernel
theorem dX1_loseFirst_27 : decode cX1_loseFirst 27 = .ok (.iload_n 2, 1) := by decide +kernel
theorem dX1_loseFirst_28 : decode cX1_loseFirst 28 = .ok (.iconst 1, 1) := by decide +kernel
theorem dX1_loseFirst_29 : decode cX1_loseFirst 29 = .ok (.isub, 1) := by decide +kernel
theorem dX1_loseFirst_30 : decode cX1_loseFirst 30 = .ok (.invokestatic 15, 3) := by decide +kernel
theorem dX1_loseFirst_33 : decode cX1_loseFirst 33 = .ok (.aload_n 0, 1) := by decide +kernel
theorem dX1_loseFirst_34 : decode cX1_loseFirst 34 = .ok (.getfield 11, 3) := by decide +kernel
theorem dX1_loseFirst_37 : decode cX1_loseFirst 37 = .ok (.iconst 1, 1) := by decide +kernel
theorem dX1_loseFirst_38 : decode cX1_loseFirst 38 = .ok (.iload_n 1, 1) := by decide +kernel
theorem dX1_loseFirst_39 : decode cX1_loseFirst 39 = .ok (.iadd, 1) := by decide +kernel
theorem dX1_loseFirst_40 : decode cX1_loseFirst 40 = .ok (.iload_n 2, 1) := by decide +kernel
theorem dX1_loseFirst_41 : decode cX1_loseFirst 41 = .ok (.iconst 1, 1) := by decide +kernel
theorem dX1_loseFirst_42 : decode cX1_loseFirst 42 = .ok (.isub, 1) := by decide +kernel
theorem dX1_loseFirst_43 : decode cX1_loseFirst 43 = .ok (.iastore, 1) := by decide +kernel
theorem dX1_loseFirst_44 : decode cX1_loseFirst 44 = .ok (.return_, 1) := by decide +kernel
set_option maxRecDepth 20000 in
theorem ggX1_loseLast_X1_knotsOf : GoodIn wsX1_loseLast wsX1_knotsOf := goodIn_r _ [6, 1, 7, 8, 5, 9, 10] (by decide +kernel) (by decide +kernel)
set_option maxRecDepth 20000 in
theorem gX1_loseLast_X1_knotsOf : GoodIn wsX1_loseLast (wsV RX1 25 RX1 yX1_knotsOf wsX1_knotsOf) := goodIn_app (goodIn_of _ (by decide +kernel)) ggX1_loseLast_X1_knotsOf
theorem dX1_loseLast_0 : decode cX1_loseLast 0 = .ok (.aload_n 0, 1) := by decide +kernel
theorem dX1_loseLast_1 : decode cX1_loseLast 1 = .ok (.iload_n 1, 1) := by decide +kernel
theorem dX1_loseLast_2 : decode cX1_loseLast 2 = .ok (.invokevirtual 25, 3) := by decide +kernel
theorem dX1_loseLast_5 : decode cX1_loseLast 5 = .ok (.ifCond .le 15, 3) := by decide +kernel
theorem dX1_loseLast_8 : decode cX1_loseLast 8 = .ok (.aload_n 0, 1) := by decide +kernel
theorem dX1_loseLast_9 : decode cX1_loseLast 9 = .ok (.getfield 11, 3) := by decide +kernel
theorem dX1_loseLast_12 : decode cX1_loseLast 12 = .ok (.iconst 1, 1) := by decide +kernel
theorem dX1_loseLast_13 : decode cX1_loseLast 13 = .ok (.iload_n 1, 1) := by decide +kernel
theorem dX1_loseLast_14 : decode cX1_loseLast 14 = .ok (.iadd, 1) := by decide +kernel
theorem dX1_loseLast_15 : decode cX1_loseLast 15 = .ok (.dup2, 1) := by decide +kernel
theorem dX1_loseLast_16 : decode cX1_loseLast 16 = .ok (.iaload, 1) := by decide +kernel
theorem dX1_loseLast_17 : decode cX1_loseLast 17 = .ok (.iconst 1, 1) := by decide +kernel
theorem dX1_loseLast_18 : decode cX1_loseLast 18 = .ok (.isub, 1) := by decide +kernel
theorem dX1_loseLast_19 : decode cX1_loseLast 19 = .ok (.iastore, 1) := by decide +kernel
theorem dX1_loseLast_20 : decode cX1_loseLast 20 = .ok (.return_, 1) := by decide +kernel
set_option maxRecDepth 20000 in
theorem ggX1_loseSteps_X1_isRoom : GoodIn wsX1_loseSteps wsX1_isRoom := goodIn_r _ [5] (by decide +kernel) (by decide +kernel)
set_option maxRecDepth 20000 in
theorem gX1_loseSteps_X1_isRoom : GoodIn wsX1_loseSteps (va_wsS RX1 21 yX1_isRoom wsX1_isRoom) := goodIn_app (goodIn_of _ (by decide +kernel)) ggX1_loseSteps_X1_isRoom
theorem dX1_loseSteps_0 : decode cX1_loseSteps 0 = .ok (.iload_n 1, 1) := by decide +kernel
theorem dX1_loseSteps_1 : decode cX1_loseSteps 1 = .ok (.invokestatic 21, 3) := by decide +kernel
theorem dX1_loseSteps_4 : decode cX1_loseSteps 4 = .ok (.ifCond .eq 12, 3) := by decide +kernel
theorem dX1_loseSteps_7 : decode cX1_loseSteps 7 = .ok (.aload_n 0, 1) := by decide +kernel
theorem dX1_loseSteps_8 : decode cX1_loseSteps 8 = .ok (.getfield 11, 3) := by decide +kernel
theorem dX1_loseSteps_11 : decode cX1_loseSteps 11 = .ok (.iconst 4, 1) := by decide +kernel
theorem dX1_loseSteps_12 : decode cX1_loseSteps 12 = .ok (.iload_n 1, 1) := by decide +kernel
theorem dX1_loseSteps_13 : decode cX1_loseSteps 13 = .ok (.iadd, 1) := by decide +kernel
theorem dX1_loseSteps_14 : decode cX1_loseSteps 14 = .ok (.iconst 0, 1) := by decide +kernel
theorem dX1_loseSteps_15 : decode cX1_loseSteps 15 = .ok (.iastore, 1) := by decide +kernel
theorem dX1_loseSteps_16 : decode cX1_loseSteps 16 = .ok (.return_, 1) := by decide +kernel
theorem dX1_isRoom_0 : decode cX1_isRoom 0 = .ok (.iload_n 0, 1) := by decide +kernel
theorem dX1_isRoom_1 : decode cX1_isRoom 1 = .ok (.ifCond .lt 12, 3) := by decide +kernel
theorem dX1_isRoom_4 : decode cX1_isRoom 4 = .ok (.iload_n 0, 1) := by decide +kernel
theorem dX1_isRoom_5 : decode cX1_isRoom 5 = .ok (.iconst 3, 1) := by decide +kernel
theorem dX1_isRoom_6 : decode cX1_isRoom 6 = .ok (.if_icmp .ge 7, 3) := by decide +kernel
theorem dX1_isRoom_9 : decode cX1_isRoom 9 = .ok (.iconst 1, 1) := by decide +kernel
theorem dX1_isRoom_10 : decode cX1_isRoom 10 = .ok (.goto 4, 3) := by decide +kernel
theorem dX1_isRoom_13 : decode cX1_isRoom 13 = .ok (.iconst 0, 1) := by decide +kernel
theorem dX1_isRoom_14 : decode cX1_isRoom 14 = .ok (.ireturn, 1) := by decide +kernel
theorem dX1_firstCell_0 : decode cX1_firstCell 0 = .ok (.bipush 7, 2) := by decide +kernel
theorem dX1_firstCell_2 : decode cX1_firstCell 2 = .ok (.iload_n 0, 1) := by decide +kernel
theorem dX1_firstCell_3 : decode cX1_firstCell 3 = .ok (.bipush 30, 2) := by decide +kernel
theorem dX1_firstCell_5 : decode cX1_firstCell 5 = .ok (.imul, 1) := by decide +kernel
theorem dX1_firstCell_6 : decode cX1_firstCell 6 = .ok (.iadd, 1) := by decide +kernel
theorem dX1_firstCell_7 : decode cX1_firstCell 7 = .ok (.ireturn, 1) := by decide +kernel
theorem dX2_init_0 : decode cX2_init 0 = .ok (.aload_n 0, 1) := by decide +kernel
theorem dX2_init_1 : decode cX2_init 1 = .ok (.invokespecial 3, 3) := by decide +kernel
theorem dX2_init_4 : decode cX2_init 4 = .ok (.aload_n 0, 1) := by decide +kernel
theorem dX2_init_5 : decode cX2_init 5 = .ok (.bipush 124, 2) := by decide +kernel
theorem dX2_init_7 : decode cX2_init 7 = .ok (.newarray .long, 2) := by decide +kernel
theorem dX2_init_9 : decode cX2_init 9 = .ok (.putfield 9, 3) := by decide +kernel
theorem dX2_init_12 : decode cX2_init 12 = .ok (.aload_n 0, 1) := by decide +kernel
theorem dX2_init_13 : decode cX2_init 13 = .ok (.bipush 124, 2) := by decide +kernel
theorem dX2_init_15 : decode cX2_init 15 = .ok (.newarray .long, 2) := by decide +kernel
theorem dX2_init_17 : decode cX2_init 17 = .ok (.putfield 15, 3) := by decide +kernel
theorem dX2_init_20 : decode cX2_init 20 = .ok (.aload_n 0, 1) := by decide +kernel
theorem dX2_init_21 : decode cX2_init 21 = .ok (.bipush 6, 2) := by decide +kernel
theorem dX2_init_23 : decode cX2_init 23 = .ok (.newarray .long, 2) := by decide +kernel
theorem dX2_init_25 : decode cX2_init 25 = .ok (.putfield 18, 3) := by decide +kernel
theorem dX2_init_28 : decode cX2_init 28 = .ok (.aload_n 0, 1) := by decide +kernel
theorem dX2_init_29 : decode cX2_init 29 = .ok (.iconst 0, 1) := by decide +kernel
theorem dX2_init_30 : decode cX2_init 30 = .ok (.putfield 21, 3) := by decide +kernel
theorem dX2_init_33 : decode cX2_init 33 = .ok (.aload_n 0, 1) := by decide +kernel
theorem dX2_init_34 : decode cX2_init 34 = .ok (.lconst 1, 1) := by decide +kernel
theorem dX2_init_35 : decode cX2_init 35 = .ok (.putfield 25, 3) := by decide +kernel
theorem dX2_init_38 : decode cX2_init 38 = .ok (.aload_n 0, 1) := by decide +kernel
theorem dX2_init_39 : decode cX2_init 39 = .ok (.lconst 0, 1) := by decide +kernel
theorem dX2_init_40 : decode cX2_init 40 = .ok (.putfield 29, 3) := by decide +kernel
theorem dX2_init_43 : decode cX2_init 43 = .ok (.return_, 1) := by decide +kernel
set_option maxRecDepth 20000 in
theorem ggX2_reckon_X4_needsOf : GoodIn wsX2_reckon wsX4_needsOf := goodIn_r _ [8, 9, 10, 11, 12, 7, 13, 14, 62, 63, 64, 65, 66, 67, 68, 69, 70] (by decide +kernel) (by decide +kernel)
set_option maxRecDepth 20000 in
theorem gX2_reckon_X4_needsOf : GoodIn wsX2_reckon (wsV RX2 32 RX4 yX4_needsOf wsX4_needsOf) := goodIn_app (goodIn_of _ (by decide +kernel)) ggX2_reckon_X4_needsOf
set_option maxRecDepth 20000 in
theorem ggX2_reckon_X2_spread : GoodIn wsX2_reckon wsX2_spread := goodIn_r _ [19, 20, 21, 22, 23, 24, 25, 26, 18, 27, 28, 29, 30, 31, 56, 57, 58, 59, 60, 61, 62, 63, 64, 65, 66, 67, 68, 69, 70] (by decide +kernel) (by decide +kernel)
set_option maxRecDepth 20000 in
theorem gX2_reckon_X2_spread : GoodIn wsX2_reckon (wsV RX2 38 RX2 yX2_spread wsX2_spread) := goodIn_app (goodIn_of _ (by decide +kernel)) ggX2_reckon_X2_spread
set_option maxRecDepth 20000 in
theorem ggX2_reckon_X2_clear : GoodIn wsX2_reckon wsX2_clear := goodIn_r _ [27] (by decide +kernel) (by decide +kernel)
set_option maxRecDepth 20000 in
theorem gX2_reckon_X2_clear : GoodIn wsX2_reckon (va_wsS RX2 42 yX2_clear wsX2_clear) := goodIn_app (goodIn_of _ (by decide +kernel)) ggX2_reckon_X2_clear
set_option maxRecDepth 20000 in
theorem ggX2_reckon_X2_goOn : GoodIn wsX2_reckon wsX2_goOn := goodIn_r _ [35, 36, 1, 21, 20, 37, 38, 39, 40, 2, 41, 25, 26, 18, 27, 42, 43, 44, 45, 46, 47, 48, 49, 50, 51, 52, 53, 54, 55, 56, 57, 58, 59, 60, 61] (by decide +kernel) (by decide +kernel)
set_option maxRecDepth 20000 in
theorem gX2_reckon_X2_goOn : GoodIn wsX2_reckon (wsV RX2 46 RX2 yX2_goOn wsX2_goOn) := goodIn_app (goodIn_of _ (by decide +kernel)) ggX2_reckon_X2_goOn
theorem dX2_reckon_0 : decode cX2_reckon 0 = .ok (.aload_n 1, 1) := by decide +kernel
theorem dX2_reckon_1 : decode cX2_reckon 1 = .ok (.iload_n 2, 1) := by decide +kernel
theorem dX2_reckon_2 : decode cX2_reckon 2 = .ok (.invokevirtual 32, 3) := by decide +kernel
theorem dX2_reckon_5 : decode cX2_reckon 5 = .ok (.istore 5, 2) := by decide +kernel
theorem dX2_reckon_7 : decode cX2_reckon 7 = .ok (.aload_n 0, 1) := by decide +kernel
theorem dX2_reckon_8 : decode cX2_reckon 8 = .ok (.aload_n 1, 1) := by decide +kernel
theorem dX2_reckon_9 : decode cX2_reckon 9 = .ok (.iload_n 2, 1) := by decide +kernel
theorem dX2_reckon_10 : decode cX2_reckon 10 = .ok (.invokevirtual 38, 3) := by decide +kernel
theorem dX2_reckon_13 : decode cX2_reckon 13 = .ok (.aload_n 0, 1) := by decide +kernel
theorem dX2_reckon_14 : decode cX2_reckon 14 = .ok (.getfield 9, 3) := by decide +kernel
theorem dX2_reckon_17 : decode cX2_reckon 17 = .ok (.invokestatic 42, 3) := by decide +kernel
theorem dX2_reckon_20 : decode cX2_reckon 20 = .ok (.iload 4, 2) := by decide +kernel
theorem dX2_reckon_22 : decode cX2_reckon 22 = .ok (.ifCond .lt 18, 3) := by decide +kernel
theorem dX2_reckon_25 : decode cX2_reckon 25 = .ok (.iload 4, 2) := by decide +kernel
theorem dX2_reckon_27 : decode cX2_reckon 27 = .ok (.bipush 124, 2) := by decide +kernel
theorem dX2_reckon_29 : decode cX2_reckon 29 = .ok (.if_icmp .ge 11, 3) := by decide +kernel
theorem dX2_reckon_32 : decode cX2_reckon 32 = .ok (.aload_n 0, 1) := by decide +kernel
theorem dX2_reckon_33 : decode cX2_reckon 33 = .ok (.getfield 9, 3) := by decide +kernel
theorem dX2_reckon_36 : decode cX2_reckon 36 = .ok (.iload 4, 2) := by decide +kernel
theorem dX2_reckon_38 : decode cX2_reckon 38 = .ok (.lconst 1, 1) := by decide +kernel
theorem dX2_reckon_39 : decode cX2_reckon 39 = .ok (.lastore, 1) := by decide +kernel
theorem dX2_reckon_40 : decode cX2_reckon 40 = .ok (.aload_n 0, 1) := by decide +kernel
theorem dX2_reckon_41 : decode cX2_reckon 41 = .ok (.lconst 1, 1) := by decide +kernel
theorem dX2_reckon_42 : decode cX2_reckon 42 = .ok (.putfield 25, 3) := by decide +kernel
theorem dX2_reckon_45 : decode cX2_reckon 45 = .ok (.iconst 0, 1) := by decide +kernel
theorem dX2_reckon_46 : decode cX2_reckon 46 = .ok (.istore 6, 2) := by decide +kernel
theorem dX2_reckon_48 : decode cX2_reckon 48 = .ok (.iload 6, 2) := by decide +kernel
theorem dX2_reckon_50 : decode cX2_reckon 50 = .ok (.iload_n 3, 1) := by decide +kernel
theorem dX2_reckon_51 : decode cX2_reckon 51 = .ok (.if_icmp .ge 21, 3) := by decide +kernel
theorem dX2_reckon_54 : decode cX2_reckon 54 = .ok (.iload 6, 2) := by decide +kernel
theorem dX2_reckon_56 : decode cX2_reckon 56 = .ok (.iconst 3, 1) := by decide +kernel
theorem dX2_reckon_57 : decode cX2_reckon 57 = .ok (.if_icmp .ge 15, 3) := by decide +kernel
theorem dX2_reckon_60 : decode cX2_reckon 60 = .ok (.aload_n 0, 1) := by decide +kernel
theorem dX2_reckon_61 : decode cX2_reckon 61 = .ok (.iload 5, 2) := by decide +kernel
theorem dX2_reckon_63 : decode cX2_reckon 63 = .ok (.invokevirtual 46, 3) := by decide +kernel
theorem dX2_reckon_66 : decode cX2_reckon 66 = .ok (.iinc 6 1, 3) := by decide +kernel
theorem dX2_reckon_69 : decode cX2_reckon 69 = .ok (.goto (-21), 3) := by decide +kernel
theorem dX2_reckon_72 : decode cX2_reckon 72 = .ok (.aload_n 0, 1) := by decide +kernel
theorem dX2_reckon_73 : decode cX2_reckon 73 = .ok (.lconst 0, 1) := by decide +kernel
theorem dX2_reckon_74 : decode cX2_reckon 74 = .ok (.putfield 29, 3) := by decide +kernel
theorem dX2_reckon_77 : decode cX2_reckon 77 = .ok (.iload 5, 2) := by decide +kernel
theorem dX2_reckon_79 : decode cX2_reckon 79 = .ok (.iconst 4, 1) := by decide +kernel
theorem dX2_reckon_80 : decode cX2_reckon 80 = .ok (.imul, 1) := by decide +kernel
theorem dX2_reckon_81 : decode cX2_reckon 81 = .ok (.istore 6, 2) := by decide +kernel
theorem dX2_reckon_83 : decode cX2_reckon 83 = .ok (.iload 6, 2) := by decide +kernel
theorem dX2_reckon_85 : decode cX2_reckon 85 = .ok (.ifCond .lt 41, 3) := by decide +kernel
theorem dX2_reckon_88 : decode cX2_reckon 88 = .ok (.iload 6, 2) := by decide +kernel
theorem dX2_reckon_90 : decode cX2_reckon 90 = .ok (.bipush 124, 2) := by decide +kernel
theorem dX2_reckon_92 : decode cX2_reckon 92 = .ok (.if_icmp .ge 34, 3) := by decide +kernel
theorem dX2_reckon_95 : decode cX2_reckon 95 = .ok (.iload 6, 2) := by decide +kernel
theorem dX2_reckon_97 : decode cX2_reckon 97 = .ok (.iconst 4, 1) := by decide +kernel
theorem dX2_reckon_98 : decode cX2_reckon 98 = .ok (.idiv, 1) := by decide +kernel
theorem dX2_reckon_99 : decode cX2_reckon 99 = .ok (.iload 5, 2) := by decide +kernel
theorem dX2_reckon_101 : decode cX2_reckon 101 = .ok (.if_icmp .ne 25, 3) := by decide +kernel
theorem dX2_reckon_104 : decode cX2_reckon 104 = .ok (.aload_n 0, 1) := by decide +kernel
theorem dX2_reckon_105 : decode cX2_reckon 105 = .ok (.dup, 1) := by decide +kernel
theorem dX2_reckon_106 : decode cX2_reckon 106 = .ok (.getfield 29, 3) := by decide +kernel
theorem dX2_reckon_109 : decode cX2_reckon 109 = .ok (.aload_n 0, 1) := by decide +kernel
theorem dX2_reckon_110 : decode cX2_reckon 110 = .ok (.getfield 9, 3) := by decide +kernel
theorem dX2_reckon_113 : decode cX2_reckon 113 = .ok (.iload 6, 2) := by decide +kernel
theorem dX2_reckon_115 : decode cX2_reckon 115 = .ok (.laload, 1) := by decide +kernel
theorem dX2_reckon_116 : decode cX2_reckon 116 = .ok (.ladd, 1) := by decide +kernel
theorem dX2_reckon_117 : decode cX2_reckon 117 = .ok (.putfield 29, 3) := by decide +kernel
theorem dX2_reckon_120 : decode cX2_reckon 120 = .ok (.iinc 6 1, 3) := by decide +kernel
theorem dX2_reckon_123 : decode cX2_reckon 123 = .ok (.goto (-40), 3) := by decide +kernel
theorem dX2_reckon_126 : decode cX2_reckon 126 = .ok (.return_, 1) := by decide +kernel
set_option maxRecDepth 20000 in
theorem ggX2_above_X2_commonDivisor : GoodIn wsX2_above wsX2_commonDivisor := goodIn_r _ [6, 7, 1, 8, 9, 10, 11, 12, 13, 14, 15, 16, 17] (by decide +kernel) (by decide +kernel)
set_option maxRecDepth 20000 in
theorem gX2_above_X2_commonDivisor : GoodIn wsX2_above (wsV RX2 50 RX2 yX2_commonDivisor wsX2_commonDivisor) := goodIn_app (goodIn_of _ (by decide +kernel)) ggX2_above_X2_commonDivisor
theorem dX2_above_0 : decode cX2_above 0 = .ok (.aload_n 0, 1) := by decide +kernel
theorem dX2_above_1 : decode cX2_above 1 = .ok (.getfield 29, 3) := by decide +kernel
theorem dX2_above_4 : decode cX2_above 4 = .ok (.aload_n 0, 1) := by decide +kernel
theorem dX2_above_5 : decode cX2_above 5 = .ok (.invokevirtual 50, 3) := by decide +kernel
theorem dX2_above_8 : decode cX2_above 8 = .ok (.ldiv, 1) := by decide +kernel
theorem dX2_above_9 : decode cX2_above 9 = .ok (.lreturn, 1) := by decide +kernel
set_option maxRecDepth 20000 in
theorem ggX2_below_X2_commonDivisor : GoodIn wsX2_below wsX2_commonDivisor := goodIn_r _ [6, 1, 7, 8, 9, 10, 11, 12, 13, 14, 15, 16, 17] (by decide +kernel) (by decide +kernel)
set_option maxRecDepth 20000 in
theorem gX2_below_X2_commonDivisor : GoodIn wsX2_below (wsV RX2 50 RX2 yX2_commonDivisor wsX2_commonDivisor) := goodIn_app (goodIn_of _ (by decide +kernel)) ggX2_below_X2_commonDivisor
theorem dX2_below_0 : decode cX2_below 0 = .ok (.aload_n 0, 1) := by decide +kernel
theorem dX2_below_1 : decode cX2_below 1 = .ok (.getfield 25, 3) := by decide +kernel
theorem dX2_below_4 : decode cX2_below 4 = .ok (.aload_n 0, 1) := by decide +kernel
theorem dX2_below_5 : decode cX2_below 5 = .ok (.invokevirtual 50, 3) := by decide +kernel
theorem dX2_below_8 : decode cX2_below 8 = .ok (.ldiv, 1) := by decide +kernel
theorem dX2_below_9 : decode cX2_below 9 = .ok (.lreturn, 1) := by decide +kernel
set_option maxRecDepth 20000 in
theorem ggX2_spread_X2_clear : GoodIn wsX2_spread wsX2_clear := goodIn_r _ [9] (by decide +kernel) (by decide +kernel)
set_option maxRecDepth 20000 in
theorem gX2_spread_X2_clear : GoodIn wsX2_spread (va_wsS RX2 42 yX2_clear wsX2_clear) := goodIn_app (goodIn_of _ (by decide +kernel)) ggX2_spread_X2_clear
set_option maxRecDepth 20000 in
theorem ggX2_spread_X2_spreadOne : GoodIn wsX2_spread wsX2_spreadOne := goodIn_r _ [13, 1, 14, 15, 16, 17, 18, 19] (by decide +kernel) (by decide +kernel)
set_option maxRecDepth 20000 in
theorem gX2_spread_X2_spreadOne : GoodIn wsX2_spread (wsV RX2 64 RX2 yX2_spreadOne wsX2_spreadOne) := goodIn_app (goodIn_of _ (by decide +kernel)) ggX2_spread_X2_spreadOne
theorem dX2_spread_0 : decode cX2_spread 0 = .ok (.aload_n 0, 1) := by decide +kernel
theorem dX2_spread_1 : decode cX2_spread 1 = .ok (.getfield 18, 3) := by decide +kernel
theorem dX2_spread_4 : decode cX2_spread 4 = .ok (.invokestatic 42, 3) := by decide +kernel
theorem dX2_spread_7 : decode cX2_spread 7 = .ok (.aload_n 0, 1) := by decide +kernel
theorem dX2_spread_8 : decode cX2_spread 8 = .ok (.getfield 18, 3) := by decide +kernel
theorem dX2_spread_11 : decode cX2_spread 11 = .ok (.iconst 0, 1) := by decide +kernel
theorem dX2_spread_12 : decode cX2_spread 12 = .ok (.lconst 1, 1) := by decide +kernel
theorem dX2_spread_13 : decode cX2_spread 13 = .ok (.lastore, 1) := by decide +kernel
theorem dX2_spread_14 : decode cX2_spread 14 = .ok (.aload_n 0, 1) := by decide +kernel
theorem dX2_spread_15 : decode cX2_spread 15 = .ok (.iconst 0, 1) := by decide +kernel
theorem dX2_spread_16 : decode cX2_spread 16 = .ok (.putfield 21, 3) := by decide +kernel
theorem dX2_spread_19 : decode cX2_spread 19 = .ok (.iconst 0, 1) := by decide +kernel
theorem dX2_spread_20 : decode cX2_spread 20 = .ok (.istore_n 3, 1) := by decide +kernel
theorem dX2_spread_21 : decode cX2_spread 21 = .ok (.iload_n 3, 1) := by decide +kernel
theorem dX2_spread_22 : decode cX2_spread 22 = .ok (.aload_n 1, 1) := by decide +kernel
theorem dX2_spread_23 : decode cX2_spread 23 = .ok (.getfield 54, 3) := by decide +kernel
theorem dX2_spread_26 : decode cX2_spread 26 = .ok (.if_icmp .ge 39, 3) := by decide +kernel
theorem dX2_spread_29 : decode cX2_spread 29 = .ok (.aload_n 1, 1) := by decide +kernel
theorem dX2_spread_30 : decode cX2_spread 30 = .ok (.getfield 57, 3) := by decide +kernel
theorem dX2_spread_33 : decode cX2_spread 33 = .ok (.iload_n 3, 1) := by decide +kernel
theorem dX2_spread_34 : decode cX2_spread 34 = .ok (.iaload, 1) := by decide +kernel
theorem dX2_spread_35 : decode cX2_spread 35 = .ok (.iload_n 2, 1) := by decide +kernel
theorem dX2_spread_36 : decode cX2_spread 36 = .ok (.if_icmp .ne 23, 3) := by decide +kernel
theorem dX2_spread_39 : decode cX2_spread 39 = .ok (.aload_n 0, 1) := by decide +kernel
theorem dX2_spread_40 : decode cX2_spread 40 = .ok (.dup, 1) := by decide +kernel
theorem dX2_spread_41 : decode cX2_spread 41 = .ok (.getfield 21, 3) := by decide +kernel
theorem dX2_spread_44 : decode cX2_spread 44 = .ok (.iconst 1, 1) := by decide +kernel
theorem dX2_spread_45 : decode cX2_spread 45 = .ok (.iadd, 1) := by decide +kernel
theorem dX2_spread_46 : decode cX2_spread 46 = .ok (.putfield 21, 3) := by decide +kernel
theorem dX2_spread_49 : decode cX2_spread 49 = .ok (.aload_n 0, 1) := by decide +kernel
theorem dX2_spread_50 : decode cX2_spread 50 = .ok (.aload_n 1, 1) := by decide +kernel
theorem dX2_spread_51 : decode cX2_spread 51 = .ok (.getfield 61, 3) := by decide +kernel
theorem dX2_spread_54 : decode cX2_spread 54 = .ok (.iload_n 3, 1) := by decide +kernel
theorem dX2_spread_55 : decode cX2_spread 55 = .ok (.iaload, 1) := by decide +kernel
theorem dX2_spread_56 : decode cX2_spread 56 = .ok (.invokevirtual 64, 3) := by decide +kernel
theorem dX2_spread_59 : decode cX2_spread 59 = .ok (.iinc 3 1, 3) := by decide +kernel
theorem dX2_spread_62 : decode cX2_spread 62 = .ok (.goto (-41), 3) := by decide +kernel
theorem dX2_spread_65 : decode cX2_spread 65 = .ok (.return_, 1) := by decide +kernel
theorem dX2_spreadOne_0 : decode cX2_spreadOne 0 = .ok (.iconst 5, 1) := by decide +kernel
theorem dX2_spreadOne_1 : decode cX2_spreadOne 1 = .ok (.istore_n 2, 1) := by decide +kernel
theorem dX2_spreadOne_2 : decode cX2_spreadOne 2 = .ok (.iload_n 2, 1) := by decide +kernel
theorem dX2_spreadOne_3 : decode cX2_spreadOne 3 = .ok (.ifCond .le 39, 3) := by decide +kernel
theorem dX2_spreadOne_6 : decode cX2_spreadOne 6 = .ok (.aload_n 0, 1) := by decide +kernel
theorem dX2_spreadOne_7 : decode cX2_spreadOne 7 = .ok (.getfield 18, 3) := by decide +kernel
theorem dX2_spreadOne_10 : decode cX2_spreadOne 10 = .ok (.iload_n 2, 1) := by decide +kernel
theorem dX2_spreadOne_11 : decode cX2_spreadOne 11 = .ok (.aload_n 0, 1) := by decide +kernel
theorem dX2_spreadOne_12 : decode cX2_spreadOne 12 = .ok (.getfield 18, 3) := by decide +kernel
theorem dX2_spreadOne_15 : decode cX2_spreadOne 15 = .ok (.iload_n 2, 1) := by decide +kernel
theorem dX2_spreadOne_16 : decode cX2_spreadOne 16 = .ok (.laload, 1) := by decide +kernel
theorem dX2_spreadOne_17 : decode cX2_spreadOne 17 = .ok (.bipush 10, 2) := by decide +kernel
theorem dX2_spreadOne_19 : decode cX2_spreadOne 19 = .ok (.iload_n 1, 1) := by decide +kernel
theorem dX2_spreadOne_20 : decode cX2_spreadOne 20 = .ok (.isub, 1) := by decide +kernel
theorem dX2_spreadOne_21 : decode cX2_spreadOne 21 = .ok (.i2l, 1) := by decide +kernel
theorem dX2_spreadOne_22 : decode cX2_spreadOne 22 = .ok (.lmul, 1) := by decide +kernel
theorem dX2_spreadOne_23 : decode cX2_spreadOne 23 = .ok (.aload_n 0, 1) := by decide +kernel
theorem dX2_spreadOne_24 : decode cX2_spreadOne 24 = .ok (.getfield 18, 3) := by decide +kernel
theorem dX2_spreadOne_27 : decode cX2_spreadOne 27 = .ok (.iload_n 2, 1) := by decide +kernel
theorem dX2_spreadOne_28 : decode cX2_spreadOne 28 = .ok (.iconst 1, 1) := by decide +kernel
theorem dX2_spreadOne_29 : decode cX2_spreadOne 29 = .ok (.isub, 1) := by decide +kernel
theorem dX2_spreadOne_30 : decode cX2_spreadOne 30 = .ok (.laload, 1) := by decide +kernel
theorem dX2_spreadOne_31 : decode cX2_spreadOne 31 = .ok (.iload_n 1, 1) := by decide +kernel
theorem dX2_spreadOne_32 : decode cX2_spreadOne 32 = .ok (.i2l, 1) := by decide +kernel
theorem dX2_spreadOne_33 : decode cX2_spreadOne 33 = .ok (.lmul, 1) := by decide +kernel
theorem dX2_spreadOne_34 : decode cX2_spreadOne 34 = .ok (.ladd, 1) := by decide +kernel
theorem dX2_spreadOne_35 : decode cX2_spreadOne 35 = .ok (.lastore, 1) := by decide +kernel
theorem dX2_spreadOne_36 : decode cX2_spreadOne 36 = .ok (.iinc 2 (-1), 3) := by decide +kernel
theorem dX2_spreadOne_39 : decode cX2_spreadOne 39 = .ok (.goto (-37), 3) := by decide +kernel
theorem dX2_spreadOne_42 : decode cX2_spreadOne 42 = .ok (.aload_n 0, 1) := by decide +kernel
theorem dX2_spreadOne_43 : decode cX2_spreadOne 43 = .ok (.getfield 18, 3) := by decide +kernel
theorem dX2_spreadOne_46 : decode cX2_spreadOne 46 = .ok (.iconst 0, 1) := by decide +kernel
theorem dX2_spreadOne_47 : decode cX2_spreadOne 47 = .ok (.dup2, 1) := by decide +kernel
theorem dX2_spreadOne_48 : decode cX2_spreadOne 48 = .ok (.laload, 1) := by decide +kernel
theorem dX2_spreadOne_49 : decode cX2_spreadOne 49 = .ok (.bipush 10, 2) := by decide +kernel
theorem dX2_spreadOne_51 : decode cX2_spreadOne 51 = .ok (.iload_n 1, 1) := by decide +kernel
theorem dX2_spreadOne_52 : decode cX2_spreadOne 52 = .ok (.isub, 1) := by decide +kernel
theorem dX2_spreadOne_53 : decode cX2_spreadOne 53 = .ok (.i2l, 1) := by decide +kernel
theorem dX2_spreadOne_54 : decode cX2_spreadOne 54 = .ok (.lmul, 1) := by decide +kernel
theorem dX2_spreadOne_55 : decode cX2_spreadOne 55 = .ok (.lastore, 1) := by decide +kernel
theorem dX2_spreadOne_56 : decode cX2_spreadOne 56 = .ok (.return_, 1) := by decide +kernel
set_option maxRecDepth 20000 in
theorem ggX2_goOn_X2_clear : GoodIn wsX2_goOn wsX2_clear := goodIn_r _ [14] (by decide +kernel) (by decide +kernel)
set_option maxRecDepth 20000 in
theorem gX2_goOn_X2_clear : GoodIn wsX2_goOn (va_wsS RX2 42 yX2_clear wsX2_clear) := goodIn_app (goodIn_of _ (by decide +kernel)) ggX2_goOn_X2_clear
set_option maxRecDepth 20000 in
theorem ggX2_goOn_X7_behindDinner : GoodIn wsX2_goOn wsX7_behindDinner := goodIn_r _ [17, 18, 19, 20, 21, 22, 23, 24] (by decide +kernel) (by decide +kernel)
set_option maxRecDepth 20000 in
theorem gX2_goOn_X7_behindDinner_n67 : GoodIn wsX2_goOn (wsX7_behindDinner) := ggX2_goOn_X7_behindDinner
set_option maxRecDepth 20000 in
theorem ggX2_goOn_X2_add : GoodIn wsX2_goOn wsX2_add := goodIn_r _ [28, 1, 29, 30, 31, 32, 33, 34] (by decide +kernel) (by decide +kernel)
set_option maxRecDepth 20000 in
theorem gX2_goOn_X2_add : GoodIn wsX2_goOn (wsV RX2 71 RX2 yX2_add wsX2_add) := goodIn_app (goodIn_of _ (by decide +kernel)) ggX2_goOn_X2_add
theorem dX2_goOn_0 : decode cX2_goOn 0 = .ok (.aload_n 0, 1) := by decide +kernel
theorem dX2_goOn_1 : decode cX2_goOn 1 = .ok (.getfield 15, 3) := by decide +kernel
theorem dX2_goOn_4 : decode cX2_goOn 4 = .ok (.invokestatic 42, 3) := by decide +kernel
theorem dX2_goOn_7 : decode cX2_goOn 7 = .ok (.iconst 0, 1) := by decide +kernel
theorem dX2_goOn_8 : decode cX2_goOn 8 = .ok (.istore_n 2, 1) := by decide +kernel
theorem dX2_goOn_9 : decode cX2_goOn 9 = .ok (.iload_n 2, 1) := by decide +kernel
theorem dX2_goOn_10 : decode cX2_goOn 10 = .ok (.bipush 124, 2) := by decide +kernel
theorem dX2_goOn_12 : decode cX2_goOn 12 = .ok (.if_icmp .ge 62, 3) := by decide +kernel
theorem dX2_goOn_15 : decode cX2_goOn 15 = .ok (.iconst 0, 1) := by decide +kernel
theorem dX2_goOn_16 : decode cX2_goOn 16 = .ok (.istore_n 3, 1) := by decide +kernel
theorem dX2_goOn_17 : decode cX2_goOn 17 = .ok (.iload_n 3, 1) := by decide +kernel
theorem dX2_goOn_18 : decode cX2_goOn 18 = .ok (.iconst 5, 1) := by decide +kernel
theorem dX2_goOn_19 : decode cX2_goOn 19 = .ok (.if_icmp .gt 49, 3) := by decide +kernel
theorem dX2_goOn_22 : decode cX2_goOn 22 = .ok (.aload_n 0, 1) := by decide +kernel
theorem dX2_goOn_23 : decode cX2_goOn 23 = .ok (.getfield 9, 3) := by decide +kernel
theorem dX2_goOn_26 : decode cX2_goOn 26 = .ok (.iload_n 2, 1) := by decide +kernel
theorem dX2_goOn_27 : decode cX2_goOn 27 = .ok (.laload, 1) := by decide +kernel
theorem dX2_goOn_28 : decode cX2_goOn 28 = .ok (.lconst 0, 1) := by decide +kernel
theorem dX2_goOn_29 : decode cX2_goOn 29 = .ok (.lcmp, 1) := by decide +kernel
theorem dX2_goOn_30 : decode cX2_goOn 30 = .ok (.ifCond .eq 38, 3) := by decide +kernel
theorem dX2_goOn_33 : decode cX2_goOn 33 = .ok (.aload_n 0, 1) := by decide +kernel
theorem dX2_goOn_34 : decode cX2_goOn 34 = .ok (.iload_n 2, 1) := by decide +kernel
theorem dX2_goOn_35 : decode cX2_goOn 35 = .ok (.iload_n 1, 1) := by decide +kernel
theorem dX2_goOn_36 : decode cX2_goOn 36 = .ok (.iload_n 3, 1) := by decide +kernel
theorem dX2_goOn_37 : decode cX2_goOn 37 = .ok (.aload_n 0, 1) := by decide +kernel
theorem dX2_goOn_38 : decode cX2_goOn 38 = .ok (.getfield 21, 3) := by decide +kernel
theorem dX2_goOn_41 : decode cX2_goOn 41 = .ok (.iload_n 3, 1) := by decide +kernel
theorem dX2_goOn_42 : decode cX2_goOn 42 = .ok (.isub, 1) := by decide +kernel
theorem dX2_goOn_43 : decode cX2_goOn 43 = .ok (.invokestatic 67, 3) := by decide +kernel
theorem dX2_goOn_46 : decode cX2_goOn 46 = .ok (.aload_n 0, 1) := by decide +kernel
theorem dX2_goOn_47 : decode cX2_goOn 47 = .ok (.getfield 9, 3) := by decide +kernel
theorem dX2_goOn_50 : decode cX2_goOn 50 = .ok (.iload_n 2, 1) := by decide +kernel
theorem dX2_goOn_51 : decode cX2_goOn 51 = .ok (.laload, 1) := by decide +kernel
theorem dX2_goOn_52 : decode cX2_goOn 52 = .ok (.aload_n 0, 1) := by decide +kernel
theorem dX2_goOn_53 : decode cX2_goOn 53 = .ok (.getfield 18, 3) := by decide +kernel
theorem dX2_goOn_56 : decode cX2_goOn 56 = .ok (.iload_n 3, 1) := by decide +kernel
theorem dX2_goOn_57 : decode cX2_goOn 57 = .ok (.laload, 1) := by decide +kernel
theorem dX2_goOn_58 : decode cX2_goOn 58 = .ok (.lmul, 1) := by decide +kernel
theorem dX2_goOn_59 : decode cX2_goOn 59 = .ok (.invokevirtual 71, 3) := by decide +kernel
theorem dX2_goOn_62 : decode cX2_goOn 62 = .ok (.iinc 3 1, 3) := by decide +kernel
theorem dX2_goOn_65 : decode cX2_goOn 65 = .ok (.goto (-48), 3) := by decide +kernel
theorem dX2_goOn_68 : decode cX2_goOn 68 = .ok (.iinc 2 1, 3) := by decide +kernel
theorem dX2_goOn_71 : decode cX2_goOn 71 = .ok (.goto (-62), 3) := by decide +kernel
theorem dX2_goOn_74 : decode cX2_goOn 74 = .ok (.aload_n 0, 1) := by decide +kernel
theorem dX2_goOn_75 : decode cX2_goOn 75 = .ok (.getfield 15, 3) := by decide +kernel
theorem dX2_goOn_78 : decode cX2_goOn 78 = .ok (.iconst 0, 1) := by decide +kernel
theorem dX2_goOn_79 : decode cX2_goOn 79 = .ok (.aload_n 0, 1) := by decide +kernel
theorem dX2_goOn_80 : decode cX2_goOn 80 = .ok (.getfield 9, 3) := by decide +kernel
theorem dX2_goOn_83 : decode cX2_goOn 83 = .ok (.iconst 0, 1) := by decide +kernel
theorem dX2_goOn_84 : decode cX2_goOn 84 = .ok (.bipush 124, 2) := by decide +kernel
theorem dX2_goOn_86 : decode cX2_goOn 86 = .ok (.invokestatic 75, 3) := by decide +kernel
theorem dX2_goOn_89 : decode cX2_goOn 89 = .ok (.iconst 0, 1) := by decide +kernel
theorem dX2_goOn_90 : decode cX2_goOn 90 = .ok (.istore_n 2, 1) := by decide +kernel
theorem dX2_goOn_91 : decode cX2_goOn 91 = .ok (.iload_n 2, 1) := by decide +kernel
theorem dX2_goOn_92 : decode cX2_goOn 92 = .ok (.aload_n 0, 1) := by decide +kernel
theorem dX2_goOn_93 : decode cX2_goOn 93 = .ok (.getfield 21, 3) := by decide +kernel
theorem dX2_goOn_96 : decode cX2_goOn 96 = .ok (.if_icmp .ge 21, 3) := by decide +kernel
theorem dX2_goOn_99 : decode cX2_goOn 99 = .ok (.aload_n 0, 1) := by decide +kernel
theorem dX2_goOn_100 : decode cX2_goOn 100 = .ok (.dup, 1) := by decide +kernel
theorem dX2_goOn_101 : decode cX2_goOn 101 = .ok (.getfield 25, 3) := by decide +kernel
theorem dX2_goOn_104 : decode cX2_goOn 104 = .ok (.ldc2_w 81, 3) := by decide +kernel
theorem dX2_goOn_107 : decode cX2_goOn 107 = .ok (.lmul, 1) := by decide +kernel
theorem dX2_goOn_108 : decode cX2_goOn 108 = .ok (.putfield 25, 3) := by decide +kernel
theorem dX2_goOn_111 : decode cX2_goOn 111 = .ok (.iinc 2 1, 3) := by decide +kernel
theorem dX2_goOn_114 : decode cX2_goOn 114 = .ok (.goto (-23), 3) := by decide +kernel
theorem dX2_goOn_117 : decode cX2_goOn 117 = .ok (.return_, 1) := by decide +kernel
theorem dX2_add_0 : decode cX2_add 0 = .ok (.iload_n 1, 1) := by decide +kernel
theorem dX2_add_1 : decode cX2_add 1 = .ok (.ifCond .lt 19, 3) := by decide +kernel
theorem dX2_add_4 : decode cX2_add 4 = .ok (.iload_n 1, 1) := by decide +kernel
theorem dX2_add_5 : decode cX2_add 5 = .ok (.bipush 124, 2) := by decide +kernel
theorem dX2_add_7 : decode cX2_add 7 = .ok (.if_icmp .ge 13, 3) := by decide +kernel
theorem dX2_add_10 : decode cX2_add 10 = .ok (.aload_n 0, 1) := by decide +kernel
theorem dX2_add_11 : decode cX2_add 11 = .ok (.getfield 15, 3) := by decide +kernel
theorem dX2_add_14 : decode cX2_add 14 = .ok (.iload_n 1, 1) := by decide +kernel
theorem dX2_add_15 : decode cX2_add 15 = .ok (.dup2, 1) := by decide +kernel
theorem dX2_add_16 : decode cX2_add 16 = .ok (.laload, 1) := by decide +kernel
theorem dX2_add_17 : decode cX2_add 17 = .ok (.lload_n 2, 1) := by decide +kernel
theorem dX2_add_18 : decode cX2_add 18 = .ok (.ladd, 1) := by decide +kernel
theorem dX2_add_19 : decode cX2_add 19 = .ok (.lastore, 1) := by decide +kernel
theorem dX2_add_20 : decode cX2_add 20 = .ok (.return_, 1) := by decide +kernel
theorem dX2_commonDivisor_0 : decode cX2_commonDivisor 0 = .ok (.aload_n 0, 1) := by decide +kernel
theorem dX2_commonDivisor_1 : decode cX2_commonDivisor 1 = .ok (.getfield 25, 3) := by decide +kernel
theorem dX2_commonDivisor_4 : decode cX2_commonDivisor 4 = .ok (.lstore_n 1, 1) := by decide +kernel
theorem dX2_commonDivisor_5 : decode cX2_commonDivisor 5 = .ok (.aload_n 0, 1) := by decide +kernel
theorem dX2_commonDivisor_6 : decode cX2_commonDivisor 6 = .ok (.getfield 29, 3) := by decide +kernel
theorem dX2_commonDivisor_9 : decode cX2_commonDivisor 9 = .ok (.lstore_n 3, 1) := by decide +kernel
theorem dX2_commonDivisor_10 : decode cX2_commonDivisor 10 = .ok (.iconst 0, 1) := by decide +kernel
theorem dX2_commonDivisor_11 : decode cX2_commonDivisor 11 = .ok (.istore 5, 2) := by decide +kernel
theorem dX2_commonDivisor_13 : decode cX2_commonDivisor 13 = .ok (.iload 5, 2) := by decide +kernel
theorem dX2_commonDivisor_15 : decode cX2_commonDivisor 15 = .ok (.sipush 200, 3) := by decide +kernel
theorem dX2_commonDivisor_18 : decode cX2_commonDivisor 18 = .ok (.if_icmp .ge 25, 3) := by decide +kernel
theorem dX2_commonDivisor_21 : decode cX2_commonDivisor 21 = .ok (.lload_n 3, 1) := by decide +kernel
theorem dX2_commonDivisor_22 : decode cX2_commonDivisor 22 = .ok (.lconst 0, 1) := by decide +kernel
theorem dX2_commonDivisor_23 : decode cX2_commonDivisor 23 = .ok (.lcmp, 1) := by decide +kernel
theorem dX2_commonDivisor_24 : decode cX2_commonDivisor 24 = .ok (.ifCond .eq 19, 3) := by decide +kernel
theorem dX2_commonDivisor_27 : decode cX2_commonDivisor 27 = .ok (.lload_n 1, 1) := by decide +kernel
theorem dX2_commonDivisor_28 : decode cX2_commonDivisor 28 = .ok (.lload_n 3, 1) := by decide +kernel
theorem dX2_commonDivisor_29 : decode cX2_commonDivisor 29 = .ok (.lrem, 1) := by decide +kernel
theorem dX2_commonDivisor_30 : decode cX2_commonDivisor 30 = .ok (.lstore 6, 2) := by decide +kernel
theorem dX2_commonDivisor_32 : decode cX2_commonDivisor 32 = .ok (.lload_n 3, 1) := by decide +kernel
theorem dX2_commonDivisor_33 : decode cX2_commonDivisor 33 = .ok (.lstore_n 1, 1) := by decide +kernel
theorem dX2_commonDivisor_34 : decode cX2_commonDivisor 34 = .ok (.lload 6, 2) := by decide +kernel
theorem dX2_commonDivisor_36 : decode cX2_commonDivisor 36 = .ok (.lstore_n 3, 1) := by decide +kernel
theorem dX2_commonDivisor_37 : decode cX2_commonDivisor 37 = .ok (.iinc 5 1, 3) := by decide +kernel
theorem dX2_commonDivisor_40 : decode cX2_commonDivisor 40 = .ok (.goto (-27), 3) := by decide +kernel
theorem dX2_commonDivisor_43 : decode cX2_commonDivisor 43 = .ok (.lconst 1, 1) := by decide +kernel
theorem dX2_commonDivisor_44 : decode cX2_commonDivisor 44 = .ok (.lload_n 1, 1) := by decide +kernel
theorem dX2_commonDivisor_45 : decode cX2_commonDivisor 45 = .ok (.invokestatic 83, 3) := by decide +kernel
theorem dX2_commonDivisor_48 : decode cX2_commonDivisor 48 = .ok (.lreturn, 1) := by decide +kernel
theorem dX2_clear_0 : decode cX2_clear 0 = .ok (.iconst 0, 1) := by decide +kernel
theorem dX2_clear_1 : decode cX2_clear 1 = .ok (.istore_n 1, 1) := by decide +kernel
theorem dX2_clear_2 : decode cX2_clear 2 = .ok (.iload_n 1, 1) := by decide +kernel
theorem dX2_clear_3 : decode cX2_clear 3 = .ok (.aload_n 0, 1) := by decide +kernel
theorem dX2_clear_4 : decode cX2_clear 4 = .ok (.arraylength, 1) := by decide +kernel
theorem dX2_clear_5 : decode cX2_clear 5 = .ok (.if_icmp .ge 13, 3) := by decide +kernel
theorem dX2_clear_8 : decode cX2_clear 8 = .ok (.aload_n 0, 1) := by decide +kernel
theorem dX2_clear_9 : decode cX2_clear 9 = .ok (.iload_n 1, 1) := by decide +kernel
theorem dX2_clear_10 : decode cX2_clear 10 = .ok (.lconst 0, 1) := by decide +kernel
theorem dX2_clear_11 : decode cX2_clear 11 = .ok (.lastore, 1) := by decide +kernel
theorem dX2_clear_12 : decode cX2_clear 12 = .ok (.iinc 1 1, 3) := by decide +kernel
theorem dX2_clear_15 : decode cX2_clear 15 = .ok (.goto (-13), 3) := by decide +kernel
theorem dX2_clear_18 : decode cX2_clear 18 = .ok (.return_, 1) := by decide +kernel
theorem dX3_init_0 : decode cX3_init 0 = .ok (.aload_n 0, 1) := by decide +kernel
theorem dX3_init_1 : decode cX3_init 1 = .ok (.invokespecial 3, 3) := by decide +kernel
theorem dX3_init_4 : decode cX3_init 4 = .ok (.aload_n 0, 1) := by decide +kernel
theorem dX3_init_5 : decode cX3_init 5 = .ok (.iconst 4, 1) := by decide +kernel
theorem dX3_init_6 : decode cX3_init 6 = .ok (.newarray .int, 2) := by decide +kernel
theorem dX3_init_8 : decode cX3_init 8 = .ok (.dup, 1) := by decide +kernel
theorem dX3_init_9 : decode cX3_init 9 = .ok (.iconst 0, 1) := by decide +kernel
theorem dX3_init_10 : decode cX3_init 10 = .ok (.bipush (-9), 2) := by decide +kernel
theorem dX3_init_12 : decode cX3_init 12 = .ok (.iastore, 1) := by decide +kernel
theorem dX3_init_13 : decode cX3_init 13 = .ok (.dup, 1) := by decide +kernel
theorem dX3_init_14 : decode cX3_init 14 = .ok (.iconst 1, 1) := by decide +kernel
theorem dX3_init_15 : decode cX3_init 15 = .ok (.bipush (-9), 2) := by decide +kernel
theorem dX3_init_17 : decode cX3_init 17 = .ok (.iastore, 1) := by decide +kernel
theorem dX3_init_18 : decode cX3_init 18 = .ok (.dup, 1) := by decide +kernel
theorem dX3_init_19 : decode cX3_init 19 = .ok (.iconst 2, 1) := by decide +kernel
theorem dX3_init_20 : decode cX3_init 20 = .ok (.bipush (-9), 2) := by decide +kernel
theorem dX3_init_22 : decode cX3_init 22 = .ok (.iastore, 1) := by decide +kernel
theorem dX3_init_23 : decode cX3_init 23 = .ok (.dup, 1) := by decide +kernel
theorem dX3_init_24 : decode cX3_init 24 = .ok (.iconst 3, 1) := by decide +kernel
theorem dX3_init_25 : decode cX3_init 25 = .ok (.bipush (-9), 2) := by decide +kernel
theorem dX3_init_27 : decode cX3_init 27 = .ok (.iastore, 1) := by decide +kernel
theorem dX3_init_28 : decode cX3_init 28 = .ok (.putfield 9, 3) := by decide +kernel
theorem dX3_init_31 : decode cX3_init 31 = .ok (.return_, 1) := by decide +kernel
theorem dX3_forget_0 : decode cX3_forget 0 = .ok (.iconst 0, 1) := by decide +kernel
theorem dX3_forget_1 : decode cX3_forget 1 = .ok (.istore_n 1, 1) := by decide +kernel
theorem dX3_forget_2 : decode cX3_forget 2 = .ok (.iload_n 1, 1) := by decide +kernel
theorem dX3_forget_3 : decode cX3_forget 3 = .ok (.iconst 4, 1) := by decide +kernel
theorem dX3_forget_4 : decode cX3_forget 4 = .ok (.if_icmp .ge 17, 3) := by decide +kernel
theorem dX3_forget_7 : decode cX3_forget 7 = .ok (.aload_n 0, 1) := by decide +kernel
theorem dX3_forget_8 : decode cX3_forget 8 = .ok (.getfield 9, 3) := by decide +kernel
theorem dX3_forget_11 : decode cX3_forget 11 = .ok (.iload_n 1, 1) := by decide +kernel
theorem dX3_forget_12 : decode cX3_forget 12 = .ok (.bipush (-9), 2) := by decide +kernel
theorem dX3_forget_14 : decode cX3_forget 14 = .ok (.iastore, 1) := by decide +kernel
theorem dX3_forget_15 : decode cX3_forget 15 = .ok (.iinc 1 1, 3) := by decide +kernel
theorem dX3_forget_18 : decode cX3_forget 18 = .ok (.goto (-16), 3) := by decide +kernel
theorem dX3_forget_21 : decode cX3_forget 21 = .ok (.return_, 1) := by decide +kernel
theorem dX3_toldColours_0 : decode cX3_toldColours 0 = .ok (.iconst 0, 1) := by decide +kernel
theorem dX3_toldColours_1 : decode cX3_toldColours 1 = .ok (.istore_n 1, 1) := by decide +kernel
theorem dX3_toldColours_2 : decode cX3_toldColours 2 = .ok (.iconst 0, 1) := by decide +kernel
theorem dX3_toldColours_3 : decode cX3_toldColours 3 = .ok (.istore_n 2, 1) := by decide +kernel
theorem dX3_toldColours_4 : decode cX3_toldColours 4 = .ok (.iload_n 2, 1) := by decide +kernel
theorem dX3_toldColours_5 : decode cX3_toldColours 5 = .ok (.iconst 4, 1) := by decide +kernel
theorem dX3_toldColours_6 : decode cX3_toldColours 6 = .ok (.if_icmp .ge 23, 3) := by decide +kernel
theorem dX3_toldColours_9 : decode cX3_toldColours 9 = .ok (.aload_n 0, 1) := by decide +kernel
theorem dX3_toldColours_10 : decode cX3_toldColours 10 = .ok (.getfield 9, 3) := by decide +kernel
theorem dX3_toldColours_13 : decode cX3_toldColours 13 = .ok (.iload_n 2, 1) := by decide +kernel
theorem dX3_toldColours_14 : decode cX3_toldColours 14 = .ok (.iaload, 1) := by decide +kernel
theorem dX3_toldColours_15 : decode cX3_toldColours 15 = .ok (.bipush (-9), 2) := by decide +kernel
theorem dX3_toldColours_17 : decode cX3_toldColours 17 = .ok (.if_icmp .eq 6, 3) := by decide +kernel
theorem dX3_toldColours_20 : decode cX3_toldColours 20 = .ok (.iinc 1 1, 3) := by decide +kernel
theorem dX3_toldColours_23 : decode cX3_toldColours 23 = .ok (.iinc 2 1, 3) := by decide +kernel
theorem dX3_toldColours_26 : decode cX3_toldColours 26 = .ok (.goto (-22), 3) := by decide +kernel
theorem dX3_toldColours_29 : decode cX3_toldColours 29 = .ok (.iload_n 1, 1) := by decide +kernel
theorem dX3_toldColours_30 : decode cX3_toldColours 30 = .ok (.ireturn, 1) := by decide +kernel
set_option maxRecDepth 20000 in
theorem ggX3_setsThatFit_X4_everyone : GoodIn wsX3_setsThatFit wsX4_everyone := goodIn_r _ [5, 6, 18, 19, 20, 21, 22, 23, 24, 25, 26] (by decide +kernel) (by decide +kernel)
set_option maxRecDepth 20000 in
theorem gX3_setsThatFit_X4_everyone : GoodIn wsX3_setsThatFit (wsV RX3 15 RX4 yX4_everyone wsX4_everyone) := goodIn_app (goodIn_of _ (by decide +kernel)) ggX3_setsThatFit_X4_everyone
set_option maxRecDepth 20000 in
theorem ggX3_setsThatFit_X3_fits : GoodIn wsX3_setsThatFit wsX3_fits := goodIn_r _ [11, 12, 13, 14, 10, 15, 16, 17, 27, 18, 19, 20, 21, 22, 23, 24, 25, 26] (by decide +kernel) (by decide +kernel)
set_option maxRecDepth 20000 in
theorem gX3_setsThatFit_X3_fits : GoodIn wsX3_setsThatFit (wsV RX3 21 RX3 yX3_fits wsX3_fits) := goodIn_app (goodIn_of _ (by decide +kernel)) ggX3_setsThatFit_X3_fits
theorem dX3_setsThatFit_0 : decode cX3_setsThatFit 0 = .ok (.iconst 0, 1) := by decide +kernel
theorem dX3_setsThatFit_1 : decode cX3_setsThatFit 1 = .ok (.istore_n 2, 1) := by decide +kernel
theorem dX3_setsThatFit_2 : decode cX3_setsThatFit 2 = .ok (.aload_n 1, 1) := by decide +kernel
theorem dX3_setsThatFit_3 : decode cX3_setsThatFit 3 = .ok (.invokevirtual 15, 3) := by decide +kernel
theorem dX3_setsThatFit_6 : decode cX3_setsThatFit 6 = .ok (.istore_n 3, 1) := by decide +kernel
theorem dX3_setsThatFit_7 : decode cX3_setsThatFit 7 = .ok (.iconst 0, 1) := by decide +kernel
theorem dX3_setsThatFit_8 : decode cX3_setsThatFit 8 = .ok (.istore 4, 2) := by decide +kernel
theorem dX3_setsThatFit_10 : decode cX3_setsThatFit 10 = .ok (.iload 4, 2) := by decide +kernel
theorem dX3_setsThatFit_12 : decode cX3_setsThatFit 12 = .ok (.iload_n 3, 1) := by decide +kernel
theorem dX3_setsThatFit_13 : decode cX3_setsThatFit 13 = .ok (.if_icmp .gt 22, 3) := by decide +kernel
theorem dX3_setsThatFit_16 : decode cX3_setsThatFit 16 = .ok (.aload_n 0, 1) := by decide +kernel
theorem dX3_setsThatFit_17 : decode cX3_setsThatFit 17 = .ok (.aload_n 1, 1) := by decide +kernel
theorem dX3_setsThatFit_18 : decode cX3_setsThatFit 18 = .ok (.iload 4, 2) := by decide +kernel
theorem dX3_setsThatFit_20 : decode cX3_setsThatFit 20 = .ok (.invokevirtual 21, 3) := by decide +kernel
theorem dX3_setsThatFit_23 : decode cX3_setsThatFit 23 = .ok (.ifCond .eq 6, 3) := by decide +kernel
theorem dX3_setsThatFit_26 : decode cX3_setsThatFit 26 = .ok (.iinc 2 1, 3) := by decide +kernel
theorem dX3_setsThatFit_29 : decode cX3_setsThatFit 29 = .ok (.iinc 4 1, 3) := by decide +kernel
theorem dX3_setsThatFit_32 : decode cX3_setsThatFit 32 = .ok (.goto (-22), 3) := by decide +kernel
theorem dX3_setsThatFit_35 : decode cX3_setsThatFit 35 = .ok (.iload_n 2, 1) := by decide +kernel
theorem dX3_setsThatFit_36 : decode cX3_setsThatFit 36 = .ok (.ireturn, 1) := by decide +kernel
set_option maxRecDepth 20000 in
theorem ggX3_surelyAway_X4_everyone : GoodIn wsX3_surelyAway wsX4_everyone := goodIn_r _ [5, 6, 18, 19, 20, 21, 22, 23, 24, 25, 26] (by decide +kernel) (by decide +kernel)
set_option maxRecDepth 20000 in
theorem gX3_surelyAway_X4_everyone : GoodIn wsX3_surelyAway (wsV RX3 15 RX4 yX4_everyone wsX4_everyone) := goodIn_app (goodIn_of _ (by decide +kernel)) ggX3_surelyAway_X4_everyone
set_option maxRecDepth 20000 in
theorem ggX3_surelyAway_X3_fits : GoodIn wsX3_surelyAway wsX3_fits := goodIn_r _ [11, 12, 13, 14, 10, 15, 16, 17, 27, 18, 19, 20, 21, 22, 23, 24, 25, 26] (by decide +kernel) (by decide +kernel)
set_option maxRecDepth 20000 in
theorem gX3_surelyAway_X3_fits : GoodIn wsX3_surelyAway (wsV RX3 21 RX3 yX3_fits wsX3_fits) := goodIn_app (goodIn_of _ (by decide +kernel)) ggX3_surelyAway_X3_fits
theorem dX3_surelyAway_0 : decode cX3_surelyAway 0 = .ok (.iconst 0, 1) := by decide +kernel
theorem dX3_surelyAway_1 : decode cX3_surelyAway 1 = .ok (.istore_n 2, 1) := by decide +kernel
theorem dX3_surelyAway_2 : decode cX3_surelyAway 2 = .ok (.aload_n 1, 1) := by decide +kernel
theorem dX3_surelyAway_3 : decode cX3_surelyAway 3 = .ok (.invokevirtual 15, 3) := by decide +kernel
theorem dX3_surelyAway_6 : decode cX3_surelyAway 6 = .ok (.istore_n 3, 1) := by decide +kernel
theorem dX3_surelyAway_7 : decode cX3_surelyAway 7 = .ok (.iload_n 3, 1) := by decide +kernel
theorem dX3_surelyAway_8 : decode cX3_surelyAway 8 = .ok (.istore 4, 2) := by decide +kernel
theorem dX3_surelyAway_10 : decode cX3_surelyAway 10 = .ok (.iconst 0, 1) := by decide +kernel
theorem dX3_surelyAway_11 : decode cX3_surelyAway 11 = .ok (.istore 5, 2) := by decide +kernel
theorem dX3_surelyAway_13 : decode cX3_surelyAway 13 = .ok (.iload 5, 2) := by decide +kernel
theorem dX3_surelyAway_15 : decode cX3_surelyAway 15 = .ok (.iload_n 3, 1) := by decide +kernel
theorem dX3_surelyAway_16 : decode cX3_surelyAway 16 = .ok (.if_icmp .gt 28, 3) := by decide +kernel
theorem dX3_surelyAway_19 : decode cX3_surelyAway 19 = .ok (.aload_n 0, 1) := by decide +kernel
theorem dX3_surelyAway_20 : decode cX3_surelyAway 20 = .ok (.aload_n 1, 1) := by decide +kernel
theorem dX3_surelyAway_21 : decode cX3_surelyAway 21 = .ok (.iload 5, 2) := by decide +kernel
theorem dX3_surelyAway_23 : decode cX3_surelyAway 23 = .ok (.invokevirtual 21, 3) := by decide +kernel
theorem dX3_surelyAway_26 : decode cX3_surelyAway 26 = .ok (.ifCond .eq 12, 3) := by decide +kernel
theorem dX3_surelyAway_29 : decode cX3_surelyAway 29 = .ok (.iconst 1, 1) := by decide +kernel
theorem dX3_surelyAway_30 : decode cX3_surelyAway 30 = .ok (.istore_n 2, 1) := by decide +kernel
theorem dX3_surelyAway_31 : decode cX3_surelyAway 31 = .ok (.iload 4, 2) := by decide +kernel
theorem dX3_surelyAway_33 : decode cX3_surelyAway 33 = .ok (.iload 5, 2) := by decide +kernel
theorem dX3_surelyAway_35 : decode cX3_surelyAway 35 = .ok (.iand, 1) := by decide +kernel
theorem dX3_surelyAway_36 : decode cX3_surelyAway 36 = .ok (.istore 4, 2) := by decide +kernel
theorem dX3_surelyAway_38 : decode cX3_surelyAway 38 = .ok (.iinc 5 1, 3) := by decide +kernel
theorem dX3_surelyAway_41 : decode cX3_surelyAway 41 = .ok (.goto (-28), 3) := by decide +kernel
theorem dX3_surelyAway_44 : decode cX3_surelyAway 44 = .ok (.iload_n 2, 1) := by decide +kernel
theorem dX3_surelyAway_45 : decode cX3_surelyAway 45 = .ok (.ifCond .eq 8, 3) := by decide +kernel
theorem dX3_surelyAway_48 : decode cX3_surelyAway 48 = .ok (.iload 4, 2) := by decide +kernel
theorem dX3_surelyAway_50 : decode cX3_surelyAway 50 = .ok (.goto 5, 3) := by decide +kernel
theorem dX3_surelyAway_53 : decode cX3_surelyAway 53 = .ok (.bipush (-9), 2) := by decide +kernel
theorem dX3_surelyAway_55 : decode cX3_surelyAway 55 = .ok (.ireturn, 1) := by decide +kernel
set_option maxRecDepth 20000 in
theorem ggX3_surelyCame_X4_everyone : GoodIn wsX3_surelyCame wsX4_everyone := goodIn_r _ [5, 6, 18, 19, 20, 21, 22, 23, 24, 25, 26] (by decide +kernel) (by decide +kernel)
set_option maxRecDepth 20000 in
theorem gX3_surelyCame_X4_everyone : GoodIn wsX3_surelyCame (wsV RX3 15 RX4 yX4_everyone wsX4_everyone) := goodIn_app (goodIn_of _ (by decide +kernel)) ggX3_surelyCame_X4_everyone
set_option maxRecDepth 20000 in
theorem ggX3_surelyCame_X3_fits : GoodIn wsX3_surelyCame wsX3_fits := goodIn_r _ [11, 12, 13, 14, 10, 15, 16, 17, 27, 18, 19, 20, 21, 22, 23, 24, 25, 26] (by decide +kernel) (by decide +kernel)
set_option maxRecDepth 20000 in
theorem gX3_surelyCame_X3_fits : GoodIn wsX3_surelyCame (wsV RX3 21 RX3 yX3_fits wsX3_fits) := goodIn_app (goodIn_of _ (by decide +kernel)) ggX3_surelyCame_X3_fits
theorem dX3_surelyCame_0 : decode cX3_surelyCame 0 = .ok (.iconst 0, 1) := by decide +kernel
theorem dX3_surelyCame_1 : decode cX3_surelyCame 1 = .ok (.istore_n 2, 1) := by decide +kernel
theorem dX3_surelyCame_2 : decode cX3_surelyCame 2 = .ok (.aload_n 1, 1) := by decide +kernel
theorem dX3_surelyCame_3 : decode cX3_surelyCame 3 = .ok (.invokevirtual 15, 3) := by decide +kernel
theorem dX3_surelyCame_6 : decode cX3_surelyCame 6 = .ok (.istore_n 3, 1) := by decide +kernel
theorem dX3_surelyCame_7 : decode cX3_surelyCame 7 = .ok (.iconst 0, 1) := by decide +kernel
theorem dX3_surelyCame_8 : decode cX3_surelyCame 8 = .ok (.istore 4, 2) := by decide +kernel
theorem dX3_surelyCame_10 : decode cX3_surelyCame 10 = .ok (.iconst 0, 1) := by decide +kernel
theorem dX3_surelyCame_11 : decode cX3_surelyCame 11 = .ok (.istore 5, 2) := by decide +kernel
theorem dX3_surelyCame_13 : decode cX3_surelyCame 13 = .ok (.iload 5, 2) := by decide +kernel
theorem dX3_surelyCame_15 : decode cX3_surelyCame 15 = .ok (.iload_n 3, 1) := by decide +kernel
theorem dX3_surelyCame_16 : decode cX3_surelyCame 16 = .ok (.if_icmp .gt 28, 3) := by decide +kernel
theorem dX3_surelyCame_19 : decode cX3_surelyCame 19 = .ok (.aload_n 0, 1) := by decide +kernel
theorem dX3_surelyCame_20 : decode cX3_surelyCame 20 = .ok (.aload_n 1, 1) := by decide +kernel
theorem dX3_surelyCame_21 : decode cX3_surelyCame 21 = .ok (.iload 5, 2) := by decide +kernel
theorem dX3_surelyCame_23 : decode cX3_surelyCame 23 = .ok (.invokevirtual 21, 3) := by decide +kernel
theorem dX3_surelyCame_26 : decode cX3_surelyCame 26 = .ok (.ifCond .eq 12, 3) := by decide +kernel
theorem dX3_surelyCame_29 : decode cX3_surelyCame 29 = .ok (.iconst 1, 1) := by decide +kernel
theorem dX3_surelyCame_30 : decode cX3_surelyCame 30 = .ok (.istore_n 2, 1) := by decide +kernel
theorem dX3_surelyCame_31 : decode cX3_surelyCame 31 = .ok (.iload 4, 2) := by decide +kernel
theorem dX3_surelyCame_33 : decode cX3_surelyCame 33 = .ok (.iload 5, 2) := by decide +kernel
theorem dX3_surelyCame_35 : decode cX3_surelyCame 35 = .ok (.ior, 1) := by decide +kernel
theorem dX3_surelyCame_36 : decode cX3_surelyCame 36 = .ok (.istore 4, 2) := by decide +kernel
theorem dX3_surelyCame_38 : decode cX3_surelyCame 38 = .ok (.iinc 5 1, 3) := by decide +kernel
theorem dX3_surelyCame_41 : decode cX3_surelyCame 41 = .ok (.goto (-28), 3) := by decide +kernel
theorem dX3_surelyCame_44 : decode cX3_surelyCame 44 = .ok (.iload_n 2, 1) := by decide +kernel
theorem dX3_surelyCame_45 : decode cX3_surelyCame 45 = .ok (.ifCond .eq 12, 3) := by decide +kernel
theorem dX3_surelyCame_48 : decode cX3_surelyCame 48 = .ok (.iload_n 3, 1) := by decide +kernel
theorem dX3_surelyCame_49 : decode cX3_surelyCame 49 = .ok (.iload 4, 2) := by decide +kernel
theorem dX3_surelyCame_51 : decode cX3_surelyCame 51 = .ok (.iconst (-1), 1) := by decide +kernel
theorem dX3_surelyCame_52 : decode cX3_surelyCame 52 = .ok (.ixor, 1) := by decide +kernel
theorem dX3_surelyCame_53 : decode cX3_surelyCame 53 = .ok (.iand, 1) := by decide +kernel
theorem dX3_surelyCame_54 : decode cX3_surelyCame 54 = .ok (.goto 5, 3) := by decide +kernel
theorem dX3_surelyCame_57 : decode cX3_surelyCame 57 = .ok (.bipush (-9), 2) := by decide +kernel
theorem dX3_surelyCame_59 : decode cX3_surelyCame 59 = .ok (.ireturn, 1) := by decide +kernel
set_option maxRecDepth 20000 in
theorem ggX3_fits_X3_wovenOf : GoodIn wsX3_fits wsX3_wovenOf := goodIn_r _ [5, 6, 7, 9, 10, 11, 12, 13, 14, 15, 16, 17] (by decide +kernel) (by decide +kernel)
set_option maxRecDepth 20000 in
theorem gX3_fits_X3_wovenOf : GoodIn wsX3_fits (va_wsS RX3 25 yX3_wovenOf wsX3_wovenOf) := goodIn_app (goodIn_of _ (by decide +kernel)) ggX3_fits_X3_wovenOf
theorem dX3_fits_0 : decode cX3_fits 0 = .ok (.iconst 0, 1) := by decide +kernel
theorem dX3_fits_1 : decode cX3_fits 1 = .ok (.istore_n 3, 1) := by decide +kernel
theorem dX3_fits_2 : decode cX3_fits 2 = .ok (.iload_n 3, 1) := by decide +kernel
theorem dX3_fits_3 : decode cX3_fits 3 = .ok (.iconst 4, 1) := by decide +kernel
theorem dX3_fits_4 : decode cX3_fits 4 = .ok (.if_icmp .ge 37, 3) := by decide +kernel
theorem dX3_fits_7 : decode cX3_fits 7 = .ok (.aload_n 0, 1) := by decide +kernel
theorem dX3_fits_8 : decode cX3_fits 8 = .ok (.getfield 9, 3) := by decide +kernel
theorem dX3_fits_11 : decode cX3_fits 11 = .ok (.iload_n 3, 1) := by decide +kernel
theorem dX3_fits_12 : decode cX3_fits 12 = .ok (.iaload, 1) := by decide +kernel
theorem dX3_fits_13 : decode cX3_fits 13 = .ok (.bipush (-9), 2) := by decide +kernel
theorem dX3_fits_15 : decode cX3_fits 15 = .ok (.if_icmp .eq 20, 3) := by decide +kernel
theorem dX3_fits_18 : decode cX3_fits 18 = .ok (.aload_n 0, 1) := by decide +kernel
theorem dX3_fits_19 : decode cX3_fits 19 = .ok (.getfield 9, 3) := by decide +kernel
theorem dX3_fits_22 : decode cX3_fits 22 = .ok (.iload_n 3, 1) := by decide +kernel
theorem dX3_fits_23 : decode cX3_fits 23 = .ok (.iaload, 1) := by decide +kernel
theorem dX3_fits_24 : decode cX3_fits 24 = .ok (.aload_n 1, 1) := by decide +kernel
theorem dX3_fits_25 : decode cX3_fits 25 = .ok (.iload_n 2, 1) := by decide +kernel
theorem dX3_fits_26 : decode cX3_fits 26 = .ok (.iload_n 3, 1) := by decide +kernel
theorem dX3_fits_27 : decode cX3_fits 27 = .ok (.invokestatic 25, 3) := by decide +kernel
theorem dX3_fits_30 : decode cX3_fits 30 = .ok (.if_icmp .eq 5, 3) := by decide +kernel
theorem dX3_fits_33 : decode cX3_fits 33 = .ok (.iconst 0, 1) := by decide +kernel
theorem dX3_fits_34 : decode cX3_fits 34 = .ok (.ireturn, 1) := by decide +kernel
theorem dX3_fits_35 : decode cX3_fits 35 = .ok (.iinc 3 1, 3) := by decide +kernel
theorem dX3_fits_38 : decode cX3_fits 38 = .ok (.goto (-36), 3) := by decide +kernel
theorem dX3_fits_41 : decode cX3_fits 41 = .ok (.iconst 1, 1) := by decide +kernel
theorem dX3_fits_42 : decode cX3_fits 42 = .ok (.ireturn, 1) := by decide +kernel
theorem dX3_wovenOf_0 : decode cX3_wovenOf 0 = .ok (.iconst 0, 1) := by decide +kernel
theorem dX3_wovenOf_1 : decode cX3_wovenOf 1 = .ok (.istore_n 3, 1) := by decide +kernel
theorem dX3_wovenOf_2 : decode cX3_wovenOf 2 = .ok (.iconst 0, 1) := by decide +kernel
theorem dX3_wovenOf_3 : decode cX3_wovenOf 3 = .ok (.istore 4, 2) := by decide +kernel
theorem dX3_wovenOf_5 : decode cX3_wovenOf 5 = .ok (.iload 4, 2) := by decide +kernel
theorem dX3_wovenOf_7 : decode cX3_wovenOf 7 = .ok (.aload_n 0, 1) := by decide +kernel
theorem dX3_wovenOf_8 : decode cX3_wovenOf 8 = .ok (.getfield 29, 3) := by decide +kernel
theorem dX3_wovenOf_11 : decode cX3_wovenOf 11 = .ok (.if_icmp .ge 29, 3) := by decide +kernel
theorem dX3_wovenOf_14 : decode cX3_wovenOf 14 = .ok (.aload_n 0, 1) := by decide +kernel
theorem dX3_wovenOf_15 : decode cX3_wovenOf 15 = .ok (.getfield 33, 3) := by decide +kernel
theorem dX3_wovenOf_18 : decode cX3_wovenOf 18 = .ok (.iload 4, 2) := by decide +kernel
theorem dX3_wovenOf_20 : decode cX3_wovenOf 20 = .ok (.iaload, 1) := by decide +kernel
theorem dX3_wovenOf_21 : decode cX3_wovenOf 21 = .ok (.iload_n 2, 1) := by decide +kernel
theorem dX3_wovenOf_22 : decode cX3_wovenOf 22 = .ok (.if_icmp .ne 12, 3) := by decide +kernel
theorem dX3_wovenOf_25 : decode cX3_wovenOf 25 = .ok (.iload_n 3, 1) := by decide +kernel
theorem dX3_wovenOf_26 : decode cX3_wovenOf 26 = .ok (.iload_n 1, 1) := by decide +kernel
theorem dX3_wovenOf_27 : decode cX3_wovenOf 27 = .ok (.iload 4, 2) := by decide +kernel
theorem dX3_wovenOf_29 : decode cX3_wovenOf 29 = .ok (.ishr, 1) := by decide +kernel
theorem dX3_wovenOf_30 : decode cX3_wovenOf 30 = .ok (.iconst 1, 1) := by decide +kernel
theorem dX3_wovenOf_31 : decode cX3_wovenOf 31 = .ok (.iand, 1) := by decide +kernel
theorem dX3_wovenOf_32 : decode cX3_wovenOf 32 = .ok (.iadd, 1) := by decide +kernel
theorem dX3_wovenOf_33 : decode cX3_wovenOf 33 = .ok (.istore_n 3, 1) := by decide +kernel
theorem dX3_wovenOf_34 : decode cX3_wovenOf 34 = .ok (.iinc 4 1, 3) := by decide +kernel
theorem dX3_wovenOf_37 : decode cX3_wovenOf 37 = .ok (.goto (-32), 3) := by decide +kernel
theorem dX3_wovenOf_40 : decode cX3_wovenOf 40 = .ok (.iload_n 3, 1) := by decide +kernel
theorem dX3_wovenOf_41 : decode cX3_wovenOf 41 = .ok (.ireturn, 1) := by decide +kernel
theorem dX4_init_0 : decode cX4_init 0 = .ok (.aload_n 0, 1) := by decide +kernel
theorem dX4_init_1 : decode cX4_init 1 = .ok (.invokespecial 3, 3) := by decide +kernel
theorem dX4_init_4 : decode cX4_init 4 = .ok (.aload_n 0, 1) := by decide +kernel
theorem dX4_init_5 : decode cX4_init 5 = .ok (.iconst 0, 1) := by decide +kernel
theorem dX4_init_6 : decode cX4_init 6 = .ok (.putfield 9, 3) := by decide +kernel
theorem dX4_init_9 : decode cX4_init 9 = .ok (.aload_n 0, 1) := by decide +kernel
theorem dX4_init_10 : decode cX4_init 10 = .ok (.iconst 0, 1) := by decide +kernel
theorem dX4_init_11 : decode cX4_init 11 = .ok (.putfield 15, 3) := by decide +kernel
theorem dX4_init_14 : decode cX4_init 14 = .ok (.aload_n 0, 1) := by decide +kernel
theorem dX4_init_15 : decode cX4_init 15 = .ok (.iconst 0, 1) := by decide +kernel
theorem dX4_init_16 : decode cX4_init 16 = .ok (.putfield 18, 3) := by decide +kernel
theorem dX4_init_19 : decode cX4_init 19 = .ok (.aload_n 0, 1) := by decide +kernel
theorem dX4_init_20 : decode cX4_init 20 = .ok (.iconst 3, 1) := by decide +kernel
theorem dX4_init_21 : decode cX4_init 21 = .ok (.newarray .int, 2) := by decide +kernel
theorem dX4_init_23 : decode cX4_init 23 = .ok (.putfield 21, 3) := by decide +kernel
theorem dX4_init_26 : decode cX4_init 26 = .ok (.aload_n 0, 1) := by decide +kernel
theorem dX4_init_27 : decode cX4_init 27 = .ok (.iconst 5, 1) := by decide +kernel
theorem dX4_init_28 : decode cX4_init 28 = .ok (.newarray .int, 2) := by decide +kernel
theorem dX4_init_30 : decode cX4_init 30 = .ok (.putfield 25, 3) := by decide +kernel
theorem dX4_init_33 : decode cX4_init 33 = .ok (.aload_n 0, 1) := by decide +kernel
theorem dX4_init_34 : decode cX4_init 34 = .ok (.iconst 5, 1) := by decide +kernel
theorem dX4_init_35 : decode cX4_init 35 = .ok (.newarray .int, 2) := by decide +kernel
theorem dX4_init_37 : decode cX4_init 37 = .ok (.putfield 28, 3) := by decide +kernel
theorem dX4_init_40 : decode cX4_init 40 = .ok (.aload_n 0, 1) := by decide +kernel
theorem dX4_init_41 : decode cX4_init 41 = .ok (.iconst 5, 1) := by decide +kernel
theorem dX4_init_42 : decode cX4_init 42 = .ok (.newarray .int, 2) := by decide +kernel
theorem dX4_init_44 : decode cX4_init 44 = .ok (.putfield 31, 3) := by decide +kernel
theorem dX4_init_47 : decode cX4_init 47 = .ok (.aload_n 0, 1) := by decide +kernel
theorem dX4_init_48 : decode cX4_init 48 = .ok (.iconst 5, 1) := by decide +kernel
theorem dX4_init_49 : decode cX4_init 49 = .ok (.newarray .int, 2) := by decide +kernel
theorem dX4_init_51 : decode cX4_init 51 = .ok (.putfield 34, 3) := by decide +kernel
theorem dX4_init_54 : decode cX4_init 54 = .ok (.aload_n 0, 1) := by decide +kernel
theorem dX4_init_55 : decode cX4_init 55 = .ok (.bipush 25, 2) := by decide +kernel
theorem dX4_init_57 : decode cX4_init 57 = .ok (.newarray .int, 2) := by decide +kernel
theorem dX4_init_59 : decode cX4_init 59 = .ok (.putfield 37, 3) := by decide +kernel
theorem dX4_init_62 : decode cX4_init 62 = .ok (.return_, 1) := by decide +kernel
theorem dX4_clear_0 : decode cX4_clear 0 = .ok (.aload_n 0, 1) := by decide +kernel
theorem dX4_clear_1 : decode cX4_clear 1 = .ok (.iconst 0, 1) := by decide +kernel
theorem dX4_clear_2 : decode cX4_clear 2 = .ok (.putfield 9, 3) := by decide +kernel
theorem dX4_clear_5 : decode cX4_clear 5 = .ok (.aload_n 0, 1) := by decide +kernel
theorem dX4_clear_6 : decode cX4_clear 6 = .ok (.iconst 0, 1) := by decide +kernel
theorem dX4_clear_7 : decode cX4_clear 7 = .ok (.putfield 15, 3) := by decide +kernel
theorem dX4_clear_10 : decode cX4_clear 10 = .ok (.aload_n 0, 1) := by decide +kernel
theorem dX4_clear_11 : decode cX4_clear 11 = .ok (.iconst 0, 1) := by decide +kernel
theorem dX4_clear_12 : decode cX4_clear 12 = .ok (.putfield 18, 3) := by decide +kernel
theorem dX4_clear_15 : decode cX4_clear 15 = .ok (.iconst 0, 1) := by decide +kernel
theorem dX4_clear_16 : decode cX4_clear 16 = .ok (.istore_n 1, 1) := by decide +kernel
theorem dX4_clear_17 : decode cX4_clear 17 = .ok (.iload_n 1, 1) := by decide +kernel
theorem dX4_clear_18 : decode cX4_clear 18 = .ok (.aload_n 0, 1) := by decide +kernel
theorem dX4_clear_19 : decode cX4_clear 19 = .ok (.getfield 37, 3) := by decide +kernel
theorem dX4_clear_22 : decode cX4_clear 22 = .ok (.arraylength, 1) := by decide +kernel
theorem dX4_clear_23 : decode cX4_clear 23 = .ok (.if_icmp .ge 16, 3) := by decide +kernel
theorem dX4_clear_26 : decode cX4_clear 26 = .ok (.aload_n 0, 1) := by decide +kernel
theorem dX4_clear_27 : decode cX4_clear 27 = .ok (.getfield 37, 3) := by decide +kernel
theorem dX4_clear_30 : decode cX4_clear 30 = .ok (.iload_n 1, 1) := by decide +kernel
theorem dX4_clear_31 : decode cX4_clear 31 = .ok (.iconst 0, 1) := by decide +kernel
theorem dX4_clear_32 : decode cX4_clear 32 = .ok (.iastore, 1) := by decide +kernel
theorem dX4_clear_33 : decode cX4_clear 33 = .ok (.iinc 1 1, 3) := by decide +kernel
theorem dX4_clear_36 : decode cX4_clear 36 = .ok (.goto (-19), 3) := by decide +kernel
theorem dX4_clear_39 : decode cX4_clear 39 = .ok (.return_, 1) := by decide +kernel
theorem dX4_hasRoom_0 : decode cX4_hasRoom 0 = .ok (.iload_n 1, 1) := by decide +kernel
theorem dX4_hasRoom_1 : decode cX4_hasRoom 1 = .ok (.ifCond .lt 15, 3) := by decide +kernel
theorem dX4_hasRoom_4 : decode cX4_hasRoom 4 = .ok (.iload_n 1, 1) := by decide +kernel
theorem dX4_hasRoom_5 : decode cX4_hasRoom 5 = .ok (.aload_n 0, 1) := by decide +kernel
theorem dX4_hasRoom_6 : decode cX4_hasRoom 6 = .ok (.getfield 9, 3) := by decide +kernel
theorem dX4_hasRoom_9 : decode cX4_hasRoom 9 = .ok (.if_icmp .ge 7, 3) := by decide +kernel
theorem dX4_hasRoom_12 : decode cX4_hasRoom 12 = .ok (.iconst 1, 1) := by decide +kernel
theorem dX4_hasRoom_13 : decode cX4_hasRoom 13 = .ok (.goto 4, 3) := by decide +kernel
theorem dX4_hasRoom_16 : decode cX4_hasRoom 16 = .ok (.iconst 0, 1) := by decide +kernel
theorem dX4_hasRoom_17 : decode cX4_hasRoom 17 = .ok (.ireturn, 1) := by decide +kernel
theorem dX4_hasPerson_0 : decode cX4_hasPerson 0 = .ok (.iload_n 1, 1) := by decide +kernel
theorem dX4_hasPerson_1 : decode cX4_hasPerson 1 = .ok (.ifCond .lt 15, 3) := by decide +kernel
theorem dX4_hasPerson_4 : decode cX4_hasPerson 4 = .ok (.iload_n 1, 1) := by decide +kernel
theorem dX4_hasPerson_5 : decode cX4_hasPerson 5 = .ok (.aload_n 0, 1) := by decide +kernel
theorem dX4_hasPerson_6 : decode cX4_hasPerson 6 = .ok (.getfield 15, 3) := by decide +kernel
theorem dX4_hasPerson_9 : decode cX4_hasPerson 9 = .ok (.if_icmp .ge 7, 3) := by decide +kernel
theorem dX4_hasPerson_12 : decode cX4_hasPerson 12 = .ok (.iconst 1, 1) := by decide +kernel
theorem dX4_hasPerson_13 : decode cX4_hasPerson 13 = .ok (.goto 4, 3) := by decide +kernel
theorem dX4_hasPerson_16 : decode cX4_hasPerson 16 = .ok (.iconst 0, 1) := by decide +kernel
theorem dX4_hasPerson_17 : decode cX4_hasPerson 17 = .ok (.ireturn, 1) := by decide +kernel
set_option maxRecDepth 20000 in
theorem ggX4_hasSet_X4_everyone : GoodIn wsX4_hasSet wsX4_everyone := goodIn_r _ [5, 6, 7, 8, 9, 10, 11, 12, 13, 14, 15] (by decide +kernel) (by decide +kernel)
set_option maxRecDepth 20000 in
theorem gX4_hasSet_X4_everyone : GoodIn wsX4_hasSet (wsV RX4 40 RX4 yX4_everyone wsX4_everyone) := goodIn_app (goodIn_of _ (by decide +kernel)) ggX4_hasSet_X4_everyone
theorem dX4_hasSet_0 : decode cX4_hasSet 0 = .ok (.iload_n 1, 1) := by decide +kernel
theorem dX4_hasSet_1 : decode cX4_hasSet 1 = .ok (.ifCond .lt 15, 3) := by decide +kernel
theorem dX4_hasSet_4 : decode cX4_hasSet 4 = .ok (.iload_n 1, 1) := by decide +kernel
theorem dX4_hasSet_5 : decode cX4_hasSet 5 = .ok (.aload_n 0, 1) := by decide +kernel
theorem dX4_hasSet_6 : decode cX4_hasSet 6 = .ok (.invokevirtual 40, 3) := by decide +kernel
theorem dX4_hasSet_9 : decode cX4_hasSet 9 = .ok (.if_icmp .gt 7, 3) := by decide +kernel
theorem dX4_hasSet_12 : decode cX4_hasSet 12 = .ok (.iconst 1, 1) := by decide +kernel
theorem dX4_hasSet_13 : decode cX4_hasSet 13 = .ok (.goto 4, 3) := by decide +kernel
theorem dX4_hasSet_16 : decode cX4_hasSet 16 = .ok (.iconst 0, 1) := by decide +kernel
theorem dX4_hasSet_17 : decode cX4_hasSet 17 = .ok (.ireturn, 1) := by decide +kernel
theorem dX4_everyone_0 : decode cX4_everyone 0 = .ok (.iconst 1, 1) := by decide +kernel
theorem dX4_everyone_1 : decode cX4_everyone 1 = .ok (.aload_n 0, 1) := by decide +kernel
theorem dX4_everyone_2 : decode cX4_everyone 2 = .ok (.getfield 15, 3) := by decide +kernel
theorem dX4_everyone_5 : decode cX4_everyone 5 = .ok (.ishl, 1) := by decide +kernel
theorem dX4_everyone_6 : decode cX4_everyone 6 = .ok (.iconst 1, 1) := by decide +kernel
theorem dX4_everyone_7 : decode cX4_everyone 7 = .ok (.isub, 1) := by decide +kernel
theorem dX4_everyone_8 : decode cX4_everyone 8 = .ok (.ireturn, 1) := by decide +kernel
set_option maxRecDepth 20000 in
theorem ggX4_needsOf_X4_hasRoom : GoodIn wsX4_needsOf wsX4_hasRoom := goodIn_r _ [6, 7, 8, 9, 10, 11, 12, 13, 14, 15, 16] (by decide +kernel) (by decide +kernel)
set_option maxRecDepth 20000 in
theorem gX4_needsOf_X4_hasRoom : GoodIn wsX4_needsOf (wsV RX4 44 RX4 yX4_hasRoom wsX4_hasRoom) := goodIn_app (goodIn_of _ (by decide +kernel)) ggX4_needsOf_X4_hasRoom
theorem dX4_needsOf_0 : decode cX4_needsOf 0 = .ok (.aload_n 0, 1) := by decide +kernel
theorem dX4_needsOf_1 : decode cX4_needsOf 1 = .ok (.iload_n 1, 1) := by decide +kernel
theorem dX4_needsOf_2 : decode cX4_needsOf 2 = .ok (.invokevirtual 44, 3) := by decide +kernel
theorem dX4_needsOf_5 : decode cX4_needsOf 5 = .ok (.ifCond .eq 12, 3) := by decide +kernel
theorem dX4_needsOf_8 : decode cX4_needsOf 8 = .ok (.aload_n 0, 1) := by decide +kernel
theorem dX4_needsOf_9 : decode cX4_needsOf 9 = .ok (.getfield 21, 3) := by decide +kernel
theorem dX4_needsOf_12 : decode cX4_needsOf 12 = .ok (.iload_n 1, 1) := by decide +kernel
theorem dX4_needsOf_13 : decode cX4_needsOf 13 = .ok (.iaload, 1) := by decide +kernel
theorem dX4_needsOf_14 : decode cX4_needsOf 14 = .ok (.goto 4, 3) := by decide +kernel
theorem dX4_needsOf_17 : decode cX4_needsOf 17 = .ok (.iconst 0, 1) := by decide +kernel
theorem dX4_needsOf_18 : decode cX4_needsOf 18 = .ok (.ireturn, 1) := by decide +kernel
theorem dX4_membersOf_0 : decode cX4_membersOf 0 = .ok (.iconst 0, 1) := by decide +kernel
theorem dX4_membersOf_1 : decode cX4_membersOf 1 = .ok (.istore_n 2, 1) := by decide +kernel
theorem dX4_membersOf_2 : decode cX4_membersOf 2 = .ok (.iconst 0, 1) := by decide +kernel
theorem dX4_membersOf_3 : decode cX4_membersOf 3 = .ok (.istore_n 3, 1) := by decide +kernel
theorem dX4_membersOf_4 : decode cX4_membersOf 4 = .ok (.iload_n 3, 1) := by decide +kernel
theorem dX4_membersOf_5 : decode cX4_membersOf 5 = .ok (.aload_n 0, 1) := by decide +kernel
theorem dX4_membersOf_6 : decode cX4_membersOf 6 = .ok (.getfield 15, 3) := by decide +kernel
theorem dX4_membersOf_9 : decode cX4_membersOf 9 = .ok (.if_icmp .ge 25, 3) := by decide +kernel
theorem dX4_membersOf_12 : decode cX4_membersOf 12 = .ok (.aload_n 0, 1) := by decide +kernel
theorem dX4_membersOf_13 : decode cX4_membersOf 13 = .ok (.getfield 25, 3) := by decide +kernel
theorem dX4_membersOf_16 : decode cX4_membersOf 16 = .ok (.iload_n 3, 1) := by decide +kernel
theorem dX4_membersOf_17 : decode cX4_membersOf 17 = .ok (.iaload, 1) := by decide +kernel
theorem dX4_membersOf_18 : decode cX4_membersOf 18 = .ok (.iload_n 1, 1) := by decide +kernel
theorem dX4_membersOf_19 : decode cX4_membersOf 19 = .ok (.if_icmp .ne 9, 3) := by decide +kernel
theorem dX4_membersOf_22 : decode cX4_membersOf 22 = .ok (.iload_n 2, 1) := by decide +kernel
theorem dX4_membersOf_23 : decode cX4_membersOf 23 = .ok (.iconst 1, 1) := by decide +kernel
theorem dX4_membersOf_24 : decode cX4_membersOf 24 = .ok (.iload_n 3, 1) := by decide +kernel
theorem dX4_membersOf_25 : decode cX4_membersOf 25 = .ok (.ishl, 1) := by decide +kernel
theorem dX4_membersOf_26 : decode cX4_membersOf 26 = .ok (.ior, 1) := by decide +kernel
theorem dX4_membersOf_27 : decode cX4_membersOf 27 = .ok (.istore_n 2, 1) := by decide +kernel
theorem dX4_membersOf_28 : decode cX4_membersOf 28 = .ok (.iinc 3 1, 3) := by decide +kernel
theorem dX4_membersOf_31 : decode cX4_membersOf 31 = .ok (.goto (-27), 3) := by decide +kernel
theorem dX4_membersOf_34 : decode cX4_membersOf 34 = .ok (.iload_n 2, 1) := by decide +kernel
theorem dX4_membersOf_35 : decode cX4_membersOf 35 = .ok (.ireturn, 1) := by decide +kernel
set_option maxRecDepth 20000 in
theorem ggX4_quarrelBetween_X4_hasPerson : GoodIn wsX4_quarrelBetween wsX4_hasPerson := goodIn_r _ [6, 7, 8, 9, 10, 11, 12, 13, 14, 15, 16] (by decide +kernel) (by decide +kernel)
set_option maxRecDepth 20000 in
theorem gX4_quarrelBetween_X4_hasPerson : GoodIn wsX4_quarrelBetween (wsV RX4 48 RX4 yX4_hasPerson wsX4_hasPerson) := goodIn_app (goodIn_of _ (by decide +kernel)) ggX4_quarrelBetween_X4_hasPerson
theorem dX4_quarrelBetween_0 : decode cX4_quarrelBetween 0 = .ok (.aload_n 0, 1) := by decide +kernel
theorem dX4_quarrelBetween_1 : decode cX4_quarrelBetween 1 = .ok (.iload_n 1, 1) := by decide +kernel
theorem dX4_quarrelBetween_2 : decode cX4_quarrelBetween 2 = .ok (.invokevirtual 48, 3) := by decide +kernel
theorem dX4_quarrelBetween_5 : decode cX4_quarrelBetween 5 = .ok (.ifCond .eq 24, 3) := by decide +kernel
theorem dX4_quarrelBetween_8 : decode cX4_quarrelBetween 8 = .ok (.aload_n 0, 1) := by decide +kernel
theorem dX4_quarrelBetween_9 : decode cX4_quarrelBetween 9 = .ok (.iload_n 2, 1) := by decide +kernel
theorem dX4_quarrelBetween_10 : decode cX4_quarrelBetween 10 = .ok (.invokevirtual 48, 3) := by decide +kernel
theorem dX4_quarrelBetween_13 : decode cX4_quarrelBetween 13 = .ok (.ifCond .eq 16, 3) := by decide +kernel
theorem dX4_quarrelBetween_16 : decode cX4_quarrelBetween 16 = .ok (.aload_n 0, 1) := by decide +kernel
theorem dX4_quarrelBetween_17 : decode cX4_quarrelBetween 17 = .ok (.getfield 37, 3) := by decide +kernel
theorem dX4_quarrelBetween_20 : decode cX4_quarrelBetween 20 = .ok (.iload_n 1, 1) := by decide +kernel
theorem dX4_quarrelBetween_21 : decode cX4_quarrelBetween 21 = .ok (.iconst 5, 1) := by decide +kernel
theorem dX4_quarrelBetween_22 : decode cX4_quarrelBetween 22 = .ok (.imul, 1) := by decide +kernel
theorem dX4_quarrelBetween_23 : decode cX4_quarrelBetween 23 = .ok (.iload_n 2, 1) := by decide +kernel
theorem dX4_quarrelBetween_24 : decode cX4_quarrelBetween 24 = .ok (.iadd, 1) := by decide +kernel
theorem dX4_quarrelBetween_25 : decode cX4_quarrelBetween 25 = .ok (.iaload, 1) := by decide +kernel
theorem dX4_quarrelBetween_26 : decode cX4_quarrelBetween 26 = .ok (.goto 4, 3) := by decide +kernel
theorem dX4_quarrelBetween_29 : decode cX4_quarrelBetween 29 = .ok (.iconst 0, 1) := by decide +kernel
theorem dX4_quarrelBetween_30 : decode cX4_quarrelBetween 30 = .ok (.ireturn, 1) := by decide +kernel
set_option maxRecDepth 20000 in
theorem ggX4_canQuarrel_X4_hasPerson : GoodIn wsX4_canQuarrel wsX4_hasPerson := goodIn_r _ [6, 7, 8, 9, 10, 11, 12, 13, 14, 15, 16] (by decide +kernel) (by decide +kernel)
set_option maxRecDepth 20000 in
theorem gX4_canQuarrel_X4_hasPerson : GoodIn wsX4_canQuarrel (wsV RX4 48 RX4 yX4_hasPerson wsX4_hasPerson) := goodIn_app (goodIn_of _ (by decide +kernel)) ggX4_canQuarrel_X4_hasPerson
theorem dX4_canQuarrel_0 : decode cX4_canQuarrel 0 = .ok (.aload_n 0, 1) := by decide +kernel
theorem dX4_canQuarrel_1 : decode cX4_canQuarrel 1 = .ok (.iload_n 1, 1) := by decide +kernel
theorem dX4_canQuarrel_2 : decode cX4_canQuarrel 2 = .ok (.invokevirtual 48, 3) := by decide +kernel
theorem dX4_canQuarrel_5 : decode cX4_canQuarrel 5 = .ok (.ifCond .eq 33, 3) := by decide +kernel
theorem dX4_canQuarrel_8 : decode cX4_canQuarrel 8 = .ok (.aload_n 0, 1) := by decide +kernel
theorem dX4_canQuarrel_9 : decode cX4_canQuarrel 9 = .ok (.iload_n 2, 1) := by decide +kernel
theorem dX4_canQuarrel_10 : decode cX4_canQuarrel 10 = .ok (.invokevirtual 48, 3) := by decide +kernel
theorem dX4_canQuarrel_13 : decode cX4_canQuarrel 13 = .ok (.ifCond .eq 25, 3) := by decide +kernel
theorem dX4_canQuarrel_16 : decode cX4_canQuarrel 16 = .ok (.iload_n 1, 1) := by decide +kernel
theorem dX4_canQuarrel_17 : decode cX4_canQuarrel 17 = .ok (.iload_n 2, 1) := by decide +kernel
theorem dX4_canQuarrel_18 : decode cX4_canQuarrel 18 = .ok (.if_icmp .eq 20, 3) := by decide +kernel
theorem dX4_canQuarrel_21 : decode cX4_canQuarrel 21 = .ok (.aload_n 0, 1) := by decide +kernel
theorem dX4_canQuarrel_22 : decode cX4_canQuarrel 22 = .ok (.getfield 37, 3) := by decide +kernel
theorem dX4_canQuarrel_25 : decode cX4_canQuarrel 25 = .ok (.iload_n 1, 1) := by decide +kernel
theorem dX4_canQuarrel_26 : decode cX4_canQuarrel 26 = .ok (.iconst 5, 1) := by decide +kernel
theorem dX4_canQuarrel_27 : decode cX4_canQuarrel 27 = .ok (.imul, 1) := by decide +kernel
theorem dX4_canQuarrel_28 : decode cX4_canQuarrel 28 = .ok (.iload_n 2, 1) := by decide +kernel
theorem dX4_canQuarrel_29 : decode cX4_canQuarrel 29 = .ok (.iadd, 1) := by decide +kernel
theorem dX4_canQuarrel_30 : decode cX4_canQuarrel 30 = .ok (.iaload, 1) := by decide +kernel
theorem dX4_canQuarrel_31 : decode cX4_canQuarrel 31 = .ok (.ifCond .ne 7, 3) := by decide +kernel
theorem dX4_canQuarrel_34 : decode cX4_canQuarrel 34 = .ok (.iconst 1, 1) := by decide +kernel
theorem dX4_canQuarrel_35 : decode cX4_canQuarrel 35 = .ok (.goto 4, 3) := by decide +kernel
theorem dX4_canQuarrel_38 : decode cX4_canQuarrel 38 = .ok (.iconst 0, 1) := by decide +kernel
theorem dX4_canQuarrel_39 : decode cX4_canQuarrel 39 = .ok (.ireturn, 1) := by decide +kernel
set_option maxRecDepth 20000 in
theorem ggX4_canQuarrelWithSome_X4_canQuarrel : GoodIn wsX4_canQuarrelWithSome wsX4_canQuarrel := goodIn_r _ [6, 7, 8, 9, 10, 5, 11, 1, 12, 13, 14, 15, 16, 17, 18, 19, 20] (by decide +kernel) (by decide +kernel)
set_option maxRecDepth 20000 in
theorem gX4_canQuarrelWithSome_X4_canQuarrel : GoodIn wsX4_canQuarrelWithSome (wsV RX4 51 RX4 yX4_canQuarrel wsX4_canQuarrel) := goodIn_app (goodIn_of _ (by decide +kernel)) ggX4_canQuarrelWithSome_X4_canQuarrel
theorem dX4_canQuarrelWithSome_0 : decode cX4_canQuarrelWithSome 0 = .ok (.iconst 0, 1) := by decide +kernel
theorem dX4_canQuarrelWithSome_1 : decode cX4_canQuarrelWithSome 1 = .ok (.istore_n 2, 1) := by decide +kernel
theorem dX4_canQuarrelWithSome_2 : decode cX4_canQuarrelWithSome 2 = .ok (.iload_n 2, 1) := by decide +kernel
theorem dX4_canQuarrelWithSome_3 : decode cX4_canQuarrelWithSome 3 = .ok (.aload_n 0, 1) := by decide +kernel
theorem dX4_canQuarrelWithSome_4 : decode cX4_canQuarrelWithSome 4 = .ok (.getfield 15, 3) := by decide +kernel
theorem dX4_canQuarrelWithSome_7 : decode cX4_canQuarrelWithSome 7 = .ok (.if_icmp .ge 20, 3) := by decide +kernel
theorem dX4_canQuarrelWithSome_10 : decode cX4_canQuarrelWithSome 10 = .ok (.aload_n 0, 1) := by decide +kernel
theorem dX4_canQuarrelWithSome_11 : decode cX4_canQuarrelWithSome 11 = .ok (.iload_n 1, 1) := by decide +kernel
theorem dX4_canQuarrelWithSome_12 : decode cX4_canQuarrelWithSome 12 = .ok (.iload_n 2, 1) := by decide +kernel
theorem dX4_canQuarrelWithSome_13 : decode cX4_canQuarrelWithSome 13 = .ok (.invokevirtual 51, 3) := by decide +kernel
theorem dX4_canQuarrelWithSome_16 : decode cX4_canQuarrelWithSome 16 = .ok (.ifCond .eq 5, 3) := by decide +kernel
theorem dX4_canQuarrelWithSome_19 : decode cX4_canQuarrelWithSome 19 = .ok (.iconst 1, 1) := by decide +kernel
theorem dX4_canQuarrelWithSome_20 : decode cX4_canQuarrelWithSome 20 = .ok (.ireturn, 1) := by decide +kernel
theorem dX4_canQuarrelWithSome_21 : decode cX4_canQuarrelWithSome 21 = .ok (.iinc 2 1, 3) := by decide +kernel
theorem dX4_canQuarrelWithSome_24 : decode cX4_canQuarrelWithSome 24 = .ok (.goto (-22), 3) := by decide +kernel
theorem dX4_canQuarrelWithSome_27 : decode cX4_canQuarrelWithSome 27 = .ok (.iconst 0, 1) := by decide +kernel
theorem dX4_canQuarrelWithSome_28 : decode cX4_canQuarrelWithSome 28 = .ok (.ireturn, 1) := by decide +kernel
theorem dX4_canQuarrelAtAll_0 : decode cX4_canQuarrelAtAll 0 = .ok (.aload_n 0, 1) := by decide +kernel
theorem dX4_canQuarrelAtAll_1 : decode cX4_canQuarrelAtAll 1 = .ok (.getfield 18, 3) := by decide +kernel
theorem dX4_canQuarrelAtAll_4 : decode cX4_canQuarrelAtAll 4 = .ok (.aload_n 0, 1) := by decide +kernel
theorem dX4_canQuarrelAtAll_5 : decode cX4_canQuarrelAtAll 5 = .ok (.getfield 15, 3) := by decide +kernel
theorem dX4_canQuarrelAtAll_8 : decode cX4_canQuarrelAtAll 8 = .ok (.aload_n 0, 1) := by decide +kernel
theorem dX4_canQuarrelAtAll_9 : decode cX4_canQuarrelAtAll 9 = .ok (.getfield 15, 3) := by decide +kernel
theorem dX4_canQuarrelAtAll_12 : decode cX4_canQuarrelAtAll 12 = .ok (.iconst 1, 1) := by decide +kernel
theorem dX4_canQuarrelAtAll_13 : decode cX4_canQuarrelAtAll 13 = .ok (.isub, 1) := by decide +kernel
theorem dX4_canQuarrelAtAll_14 : decode cX4_canQuarrelAtAll 14 = .ok (.imul, 1) := by decide +kernel
theorem dX4_canQuarrelAtAll_15 : decode cX4_canQuarrelAtAll 15 = .ok (.iconst 2, 1) := by decide +kernel
theorem dX4_canQuarrelAtAll_16 : decode cX4_canQuarrelAtAll 16 = .ok (.idiv, 1) := by decide +kernel
theorem dX4_canQuarrelAtAll_17 : decode cX4_canQuarrelAtAll 17 = .ok (.if_icmp .ge 7, 3) := by decide +kernel
theorem dX4_canQuarrelAtAll_20 : decode cX4_canQuarrelAtAll 20 = .ok (.iconst 1, 1) := by decide +kernel
theorem dX4_canQuarrelAtAll_21 : decode cX4_canQuarrelAtAll 21 = .ok (.goto 4, 3) := by decide +kernel
theorem dX4_canQuarrelAtAll_24 : decode cX4_canQuarrelAtAll 24 = .ok (.iconst 0, 1) := by decide +kernel
theorem dX4_canQuarrelAtAll_25 : decode cX4_canQuarrelAtAll 25 = .ok (.ireturn, 1) := by decide +kernel
set_option maxRecDepth 20000 in
theorem ggX4_troubleIf_X4_quarrelsWithEarlier : GoodIn wsX4_troubleIf wsX4_quarrelsWithEarlier := goodIn_r _ [7, 1, 8, 9, 10, 6, 11, 12, 13, 14, 15, 16, 17, 18, 19, 20, 21, 22, 23, 24, 25] (by decide +kernel) (by decide +kernel)
set_option maxRecDepth 20000 in
theorem gX4_troubleIf_X4_quarrelsWithEarlier : GoodIn wsX4_troubleIf (wsV RX4 55 RX4 yX4_quarrelsWithEarlier wsX4_quarrelsWithEarlier) := goodIn_app (goodIn_of _ (by decide +kernel)) ggX4_troubleIf_X4_quarrelsWithEarlier
theorem dX4_troubleIf_0 : decode cX4_troubleIf 0 = .ok (.iconst 0, 1) := by decide +kernel
theorem dX4_troubleIf_1 : decode cX4_troubleIf 1 = .ok (.istore_n 2, 1) := by decide +kernel
theorem dX4_troubleIf_2 : decode cX4_troubleIf 2 = .ok (.iconst 0, 1) := by decide +kernel
theorem dX4_troubleIf_3 : decode cX4_troubleIf 3 = .ok (.istore_n 3, 1) := by decide +kernel
theorem dX4_troubleIf_4 : decode cX4_troubleIf 4 = .ok (.iload_n 3, 1) := by decide +kernel
theorem dX4_troubleIf_5 : decode cX4_troubleIf 5 = .ok (.aload_n 0, 1) := by decide +kernel
theorem dX4_troubleIf_6 : decode cX4_troubleIf 6 = .ok (.getfield 15, 3) := by decide +kernel
theorem dX4_troubleIf_9 : decode cX4_troubleIf 9 = .ok (.if_icmp .ge 38, 3) := by decide +kernel
theorem dX4_troubleIf_12 : decode cX4_troubleIf 12 = .ok (.iload_n 1, 1) := by decide +kernel
theorem dX4_troubleIf_13 : decode cX4_troubleIf 13 = .ok (.iload_n 3, 1) := by decide +kernel
theorem dX4_troubleIf_14 : decode cX4_troubleIf 14 = .ok (.ishr, 1) := by decide +kernel
theorem dX4_troubleIf_15 : decode cX4_troubleIf 15 = .ok (.iconst 1, 1) := by decide +kernel
theorem dX4_troubleIf_16 : decode cX4_troubleIf 16 = .ok (.iand, 1) := by decide +kernel
theorem dX4_troubleIf_17 : decode cX4_troubleIf 17 = .ok (.ifCond .ne 15, 3) := by decide +kernel
theorem dX4_troubleIf_20 : decode cX4_troubleIf 20 = .ok (.iload_n 2, 1) := by decide +kernel
theorem dX4_troubleIf_21 : decode cX4_troubleIf 21 = .ok (.aload_n 0, 1) := by decide +kernel
theorem dX4_troubleIf_22 : decode cX4_troubleIf 22 = .ok (.getfield 31, 3) := by decide +kernel
theorem dX4_troubleIf_25 : decode cX4_troubleIf 25 = .ok (.iload_n 3, 1) := by decide +kernel
theorem dX4_troubleIf_26 : decode cX4_troubleIf 26 = .ok (.iaload, 1) := by decide +kernel
theorem dX4_troubleIf_27 : decode cX4_troubleIf 27 = .ok (.iadd, 1) := by decide +kernel
theorem dX4_troubleIf_28 : decode cX4_troubleIf 28 = .ok (.istore_n 2, 1) := by decide +kernel
theorem dX4_troubleIf_29 : decode cX4_troubleIf 29 = .ok (.goto 12, 3) := by decide +kernel
theorem dX4_troubleIf_32 : decode cX4_troubleIf 32 = .ok (.iload_n 2, 1) := by decide +kernel
theorem dX4_troubleIf_33 : decode cX4_troubleIf 33 = .ok (.aload_n 0, 1) := by decide +kernel
theorem dX4_troubleIf_34 : decode cX4_troubleIf 34 = .ok (.iload_n 3, 1) := by decide +kernel
theorem dX4_troubleIf_35 : decode cX4_troubleIf 35 = .ok (.iload_n 1, 1) := by decide +kernel
theorem dX4_troubleIf_36 : decode cX4_troubleIf 36 = .ok (.invokevirtual 55, 3) := by decide +kernel
theorem dX4_troubleIf_39 : decode cX4_troubleIf 39 = .ok (.iadd, 1) := by decide +kernel
theorem dX4_troubleIf_40 : decode cX4_troubleIf 40 = .ok (.istore_n 2, 1) := by decide +kernel
theorem dX4_troubleIf_41 : decode cX4_troubleIf 41 = .ok (.iinc 3 1, 3) := by decide +kernel
theorem dX4_troubleIf_44 : decode cX4_troubleIf 44 = .ok (.goto (-40), 3) := by decide +kernel
theorem dX4_troubleIf_47 : decode cX4_troubleIf 47 = .ok (.iload_n 2, 1) := by decide +kernel
theorem dX4_troubleIf_48 : decode cX4_troubleIf 48 = .ok (.ireturn, 1) := by decide +kernel
set_option maxRecDepth 20000 in
theorem ggX4_quarrelsWithEarlier_X4_quarrelBetween : GoodIn wsX4_quarrelsWithEarlier wsX4_quarrelBetween := goodIn_r _ [6, 7, 8, 9, 10, 5, 11, 1, 12, 13, 14, 15, 16, 17, 18, 19, 20] (by decide +kernel) (by decide +kernel)
set_option maxRecDepth 20000 in
theorem gX4_quarrelsWithEarlier_X4_quarrelBetween : GoodIn wsX4_quarrelsWithEarlier (wsV RX4 59 RX4 yX4_quarrelBetween wsX4_quarrelBetween) := goodIn_app (goodIn_of _ (by decide +kernel)) ggX4_quarrelsWithEarlier_X4_quarrelBetween
theorem dX4_quarrelsWithEarlier_0 : decode cX4_quarrelsWithEarlier 0 = .ok (.iconst 0, 1) := by decide +kernel
theorem dX4_quarrelsWithEarlier_1 : decode cX4_quarrelsWithEarlier 1 = .ok (.istore_n 3, 1) := by decide +kernel
theorem dX4_quarrelsWithEarlier_2 : decode cX4_quarrelsWithEarlier 2 = .ok (.iconst 0, 1) := by decide +kernel
theorem dX4_quarrelsWithEarlier_3 : decode cX4_quarrelsWithEarlier 3 = .ok (.istore 4, 2) := by decide +kernel
theorem dX4_quarrelsWithEarlier_5 : decode cX4_quarrelsWithEarlier 5 = .ok (.iload 4, 2) := by decide +kernel
theorem dX4_quarrelsWithEarlier_7 : decode cX4_quarrelsWithEarlier 7 = .ok (.iload_n 1, 1) := by decide +kernel
theorem dX4_quarrelsWithEarlier_8 : decode cX4_quarrelsWithEarlier 8 = .ok (.if_icmp .ge 38, 3) := by decide +kernel
theorem dX4_quarrelsWithEarlier_11 : decode cX4_quarrelsWithEarlier 11 = .ok (.iload 4, 2) := by decide +kernel
theorem dX4_quarrelsWithEarlier_13 : decode cX4_quarrelsWithEarlier 13 = .ok (.aload_n 0, 1) := by decide +kernel
theorem dX4_quarrelsWithEarlier_14 : decode cX4_quarrelsWithEarlier 14 = .ok (.getfield 15, 3) := by decide +kernel
theorem dX4_quarrelsWithEarlier_17 : decode cX4_quarrelsWithEarlier 17 = .ok (.if_icmp .ge 29, 3) := by decide +kernel
theorem dX4_quarrelsWithEarlier_20 : decode cX4_quarrelsWithEarlier 20 = .ok (.iload_n 2, 1) := by decide +kernel
theorem dX4_quarrelsWithEarlier_21 : decode cX4_quarrelsWithEarlier 21 = .ok (.iload 4, 2) := by decide +kernel
theorem dX4_quarrelsWithEarlier_23 : decode cX4_quarrelsWithEarlier 23 = .ok (.ishr, 1) := by decide +kernel
theorem dX4_quarrelsWithEarlier_24 : decode cX4_quarrelsWithEarlier 24 = .ok (.iconst 1, 1) := by decide +kernel
theorem dX4_quarrelsWithEarlier_25 : decode cX4_quarrelsWithEarlier 25 = .ok (.iand, 1) := by decide +kernel
theorem dX4_quarrelsWithEarlier_26 : decode cX4_quarrelsWithEarlier 26 = .ok (.iconst 1, 1) := by decide +kernel
theorem dX4_quarrelsWithEarlier_27 : decode cX4_quarrelsWithEarlier 27 = .ok (.if_icmp .ne 13, 3) := by decide +kernel
theorem dX4_quarrelsWithEarlier_30 : decode cX4_quarrelsWithEarlier 30 = .ok (.iload_n 3, 1) := by decide +kernel
theorem dX4_quarrelsWithEarlier_31 : decode cX4_quarrelsWithEarlier 31 = .ok (.aload_n 0, 1) := by decide +kernel
theorem dX4_quarrelsWithEarlier_32 : decode cX4_quarrelsWithEarlier 32 = .ok (.iload_n 1, 1) := by decide +kernel
theorem dX4_quarrelsWithEarlier_33 : decode cX4_quarrelsWithEarlier 33 = .ok (.iload 4, 2) := by decide +kernel
theorem dX4_quarrelsWithEarlier_35 : decode cX4_quarrelsWithEarlier 35 = .ok (.invokevirtual 59, 3) := by decide +kernel
theorem dX4_quarrelsWithEarlier_38 : decode cX4_quarrelsWithEarlier 38 = .ok (.iadd, 1) := by decide +kernel
theorem dX4_quarrelsWithEarlier_39 : decode cX4_quarrelsWithEarlier 39 = .ok (.istore_n 3, 1) := by decide +kernel
theorem dX4_quarrelsWithEarlier_40 : decode cX4_quarrelsWithEarlier 40 = .ok (.iinc 4 1, 3) := by decide +kernel
theorem dX4_quarrelsWithEarlier_43 : decode cX4_quarrelsWithEarlier 43 = .ok (.goto (-38), 3) := by decide +kernel
theorem dX4_quarrelsWithEarlier_46 : decode cX4_quarrelsWithEarlier 46 = .ok (.iload_n 3, 1) := by decide +kernel
theorem dX4_quarrelsWithEarlier_47 : decode cX4_quarrelsWithEarlier 47 = .ok (.ireturn, 1) := by decide +kernel
theorem dX4_addRoom_0 : decode cX4_addRoom 0 = .ok (.aload_n 0, 1) := by decide +kernel
theorem dX4_addRoom_1 : decode cX4_addRoom 1 = .ok (.getfield 9, 3) := by decide +kernel
theorem dX4_addRoom_4 : decode cX4_addRoom 4 = .ok (.iconst 3, 1) := by decide +kernel
theorem dX4_addRoom_5 : decode cX4_addRoom 5 = .ok (.if_icmp .ge 23, 3) := by decide +kernel
theorem dX4_addRoom_8 : decode cX4_addRoom 8 = .ok (.aload_n 0, 1) := by decide +kernel
theorem dX4_addRoom_9 : decode cX4_addRoom 9 = .ok (.getfield 21, 3) := by decide +kernel
theorem dX4_addRoom_12 : decode cX4_addRoom 12 = .ok (.aload_n 0, 1) := by decide +kernel
theorem dX4_addRoom_13 : decode cX4_addRoom 13 = .ok (.getfield 9, 3) := by decide +kernel
theorem dX4_addRoom_16 : decode cX4_addRoom 16 = .ok (.iload_n 1, 1) := by decide +kernel
theorem dX4_addRoom_17 : decode cX4_addRoom 17 = .ok (.iastore, 1) := by decide +kernel
theorem dX4_addRoom_18 : decode cX4_addRoom 18 = .ok (.aload_n 0, 1) := by decide +kernel
theorem dX4_addRoom_19 : decode cX4_addRoom 19 = .ok (.dup, 1) := by decide +kernel
theorem dX4_addRoom_20 : decode cX4_addRoom 20 = .ok (.getfield 9, 3) := by decide +kernel
theorem dX4_addRoom_23 : decode cX4_addRoom 23 = .ok (.iconst 1, 1) := by decide +kernel
theorem dX4_addRoom_24 : decode cX4_addRoom 24 = .ok (.iadd, 1) := by decide +kernel
theorem dX4_addRoom_25 : decode cX4_addRoom 25 = .ok (.putfield 9, 3) := by decide +kernel
theorem dX4_addRoom_28 : decode cX4_addRoom 28 = .ok (.return_, 1) := by decide +kernel
theorem dX4_addPerson_0 : decode cX4_addPerson 0 = .ok (.aload_n 0, 1) := by decide +kernel
theorem dX4_addPerson_1 : decode cX4_addPerson 1 = .ok (.getfield 15, 3) := by decide +kernel
theorem dX4_addPerson_4 : decode cX4_addPerson 4 = .ok (.iconst 5, 1) := by decide +kernel
theorem dX4_addPerson_5 : decode cX4_addPerson 5 = .ok (.if_icmp .ge 54, 3) := by decide +kernel
theorem dX4_addPerson_8 : decode cX4_addPerson 8 = .ok (.aload_n 0, 1) := by decide +kernel
theorem dX4_addPerson_9 : decode cX4_addPerson 9 = .ok (.getfield 25, 3) := by decide +kernel
theorem dX4_addPerson_12 : decode cX4_addPerson 12 = .ok (.aload_n 0, 1) := by decide +kernel
theorem dX4_addPerson_13 : decode cX4_addPerson 13 = .ok (.getfield 15, 3) := by decide +kernel
theorem dX4_addPerson_16 : decode cX4_addPerson 16 = .ok (.iload_n 1, 1) := by decide +kernel
theorem dX4_addPerson_17 : decode cX4_addPerson 17 = .ok (.iastore, 1) := by decide +kernel
theorem dX4_addPerson_18 : decode cX4_addPerson 18 = .ok (.aload_n 0, 1) := by decide +kernel
theorem dX4_addPerson_19 : decode cX4_addPerson 19 = .ok (.getfield 28, 3) := by decide +kernel
theorem dX4_addPerson_22 : decode cX4_addPerson 22 = .ok (.aload_n 0, 1) := by decide +kernel
theorem dX4_addPerson_23 : decode cX4_addPerson 23 = .ok (.getfield 15, 3) := by decide +kernel
theorem dX4_addPerson_26 : decode cX4_addPerson 26 = .ok (.iload_n 2, 1) := by decide +kernel
theorem dX4_addPerson_27 : decode cX4_addPerson 27 = .ok (.iastore, 1) := by decide +kernel
theorem dX4_addPerson_28 : decode cX4_addPerson 28 = .ok (.aload_n 0, 1) := by decide +kernel
theorem dX4_addPerson_29 : decode cX4_addPerson 29 = .ok (.getfield 31, 3) := by decide +kernel
theorem dX4_addPerson_32 : decode cX4_addPerson 32 = .ok (.aload_n 0, 1) := by decide +kernel
theorem dX4_addPerson_33 : decode cX4_addPerson 33 = .ok (.getfield 15, 3) := by decide +kernel
theorem dX4_addPerson_36 : decode cX4_addPerson 36 = .ok (.iload_n 3, 1) := by decide +kernel
theorem dX4_addPerson_37 : decode cX4_addPerson 37 = .ok (.iastore, 1) := by decide +kernel
theorem dX4_addPerson_38 : decode cX4_addPerson 38 = .ok (.aload_n 0, 1) := by decide +kernel
theorem dX4_addPerson_39 : decode cX4_addPerson 39 = .ok (.getfield 34, 3) := by decide +kernel
theorem dX4_addPerson_42 : decode cX4_addPerson 42 = .ok (.aload_n 0, 1) := by decide +kernel
theorem dX4_addPerson_43 : decode cX4_addPerson 43 = .ok (.getfield 15, 3) := by decide +kernel
theorem dX4_addPerson_46 : decode cX4_addPerson 46 = .ok (.iload 4, 2) := by decide +kernel
theorem dX4_addPerson_48 : decode cX4_addPerson 48 = .ok (.iastore, 1) := by decide +kernel
theorem dX4_addPerson_49 : decode cX4_addPerson 49 = .ok (.aload_n 0, 1) := by decide +kernel
theorem dX4_addPerson_50 : decode cX4_addPerson 50 = .ok (.dup, 1) := by decide +kernel
theorem dX4_addPerson_51 : decode cX4_addPerson 51 = .ok (.getfield 15, 3) := by decide +kernel
theorem dX4_addPerson_54 : decode cX4_addPerson 54 = .ok (.iconst 1, 1) := by decide +kernel
theorem dX4_addPerson_55 : decode cX4_addPerson 55 = .ok (.iadd, 1) := by decide +kernel
theorem dX4_addPerson_56 : decode cX4_addPerson 56 = .ok (.putfield 15, 3) := by decide +kernel
theorem dX4_addPerson_59 : decode cX4_addPerson 59 = .ok (.return_, 1) := by decide +kernel
set_option maxRecDepth 20000 in
theorem ggX4_addQuarrel_X4_hasPerson : GoodIn wsX4_addQuarrel wsX4_hasPerson := goodIn_r _ [7, 8, 9, 10, 11, 12, 13, 14, 15, 16, 17] (by decide +kernel) (by decide +kernel)
set_option maxRecDepth 20000 in
theorem gX4_addQuarrel_X4_hasPerson : GoodIn wsX4_addQuarrel (wsV RX4 48 RX4 yX4_hasPerson wsX4_hasPerson) := goodIn_app (goodIn_of _ (by decide +kernel)) ggX4_addQuarrel_X4_hasPerson
theorem dX4_addQuarrel_0 : decode cX4_addQuarrel 0 = .ok (.aload_n 0, 1) := by decide +kernel
theorem dX4_addQuarrel_1 : decode cX4_addQuarrel 1 = .ok (.iload_n 1, 1) := by decide +kernel
theorem dX4_addQuarrel_2 : decode cX4_addQuarrel 2 = .ok (.invokevirtual 48, 3) := by decide +kernel
theorem dX4_addQuarrel_5 : decode cX4_addQuarrel 5 = .ok (.ifCond .eq 43, 3) := by decide +kernel
theorem dX4_addQuarrel_8 : decode cX4_addQuarrel 8 = .ok (.aload_n 0, 1) := by decide +kernel
theorem dX4_addQuarrel_9 : decode cX4_addQuarrel 9 = .ok (.iload_n 2, 1) := by decide +kernel
theorem dX4_addQuarrel_10 : decode cX4_addQuarrel 10 = .ok (.invokevirtual 48, 3) := by decide +kernel
theorem dX4_addQuarrel_13 : decode cX4_addQuarrel 13 = .ok (.ifCond .eq 35, 3) := by decide +kernel
theorem dX4_addQuarrel_16 : decode cX4_addQuarrel 16 = .ok (.aload_n 0, 1) := by decide +kernel
theorem dX4_addQuarrel_17 : decode cX4_addQuarrel 17 = .ok (.getfield 37, 3) := by decide +kernel
theorem dX4_addQuarrel_20 : decode cX4_addQuarrel 20 = .ok (.iload_n 1, 1) := by decide +kernel
theorem dX4_addQuarrel_21 : decode cX4_addQuarrel 21 = .ok (.iconst 5, 1) := by decide +kernel
theorem dX4_addQuarrel_22 : decode cX4_addQuarrel 22 = .ok (.imul, 1) := by decide +kernel
theorem dX4_addQuarrel_23 : decode cX4_addQuarrel 23 = .ok (.iload_n 2, 1) := by decide +kernel
theorem dX4_addQuarrel_24 : decode cX4_addQuarrel 24 = .ok (.iadd, 1) := by decide +kernel
theorem dX4_addQuarrel_25 : decode cX4_addQuarrel 25 = .ok (.iload_n 3, 1) := by decide +kernel
theorem dX4_addQuarrel_26 : decode cX4_addQuarrel 26 = .ok (.iastore, 1) := by decide +kernel
theorem dX4_addQuarrel_27 : decode cX4_addQuarrel 27 = .ok (.aload_n 0, 1) := by decide +kernel
theorem dX4_addQuarrel_28 : decode cX4_addQuarrel 28 = .ok (.getfield 37, 3) := by decide +kernel
theorem dX4_addQuarrel_31 : decode cX4_addQuarrel 31 = .ok (.iload_n 2, 1) := by decide +kernel
theorem dX4_addQuarrel_32 : decode cX4_addQuarrel 32 = .ok (.iconst 5, 1) := by decide +kernel
theorem dX4_addQuarrel_33 : decode cX4_addQuarrel 33 = .ok (.imul, 1) := by decide +kernel
theorem dX4_addQuarrel_34 : decode cX4_addQuarrel 34 = .ok (.iload_n 1, 1) := by decide +kernel
theorem dX4_addQuarrel_35 : decode cX4_addQuarrel 35 = .ok (.iadd, 1) := by decide +kernel
theorem dX4_addQuarrel_36 : decode cX4_addQuarrel 36 = .ok (.iload_n 3, 1) := by decide +kernel
theorem dX4_addQuarrel_37 : decode cX4_addQuarrel 37 = .ok (.iastore, 1) := by decide +kernel
theorem dX4_addQuarrel_38 : decode cX4_addQuarrel 38 = .ok (.aload_n 0, 1) := by decide +kernel
theorem dX4_addQuarrel_39 : decode cX4_addQuarrel 39 = .ok (.dup, 1) := by decide +kernel
theorem dX4_addQuarrel_40 : decode cX4_addQuarrel 40 = .ok (.getfield 18, 3) := by decide +kernel
theorem dX4_addQuarrel_43 : decode cX4_addQuarrel 43 = .ok (.iconst 1, 1) := by decide +kernel
theorem dX4_addQuarrel_44 : decode cX4_addQuarrel 44 = .ok (.iadd, 1) := by decide +kernel
theorem dX4_addQuarrel_45 : decode cX4_addQuarrel 45 = .ok (.putfield 18, 3) := by decide +kernel
theorem dX4_addQuarrel_48 : decode cX4_addQuarrel 48 = .ok (.return_, 1) := by decide +kernel
theorem dX5_init_0 : decode cX5_init 0 = .ok (.aload_n 0, 1) := by decide +kernel
theorem dX5_init_1 : decode cX5_init 1 = .ok (.invokespecial 3, 3) := by decide +kernel
theorem dX5_init_4 : decode cX5_init 4 = .ok (.aload_n 0, 1) := by decide +kernel
theorem dX5_init_5 : decode cX5_init 5 = .ok (.bipush 7, 2) := by decide +kernel
theorem dX5_init_7 : decode cX5_init 7 = .ok (.bipush 124, 2) := by decide +kernel
theorem dX5_init_9 : decode cX5_init 9 = .ok (.multianewarray 9 2, 4) := by decide +kernel
theorem dX5_init_13 : decode cX5_init 13 = .ok (.putfield 11, 3) := by decide +kernel
theorem dX5_init_16 : decode cX5_init 16 = .ok (.aload_n 0, 1) := by decide +kernel
theorem dX5_init_17 : decode cX5_init 17 = .ok (.bipush 6, 2) := by decide +kernel
theorem dX5_init_19 : decode cX5_init 19 = .ok (.newarray .int, 2) := by decide +kernel
theorem dX5_init_21 : decode cX5_init 21 = .ok (.putfield 16, 3) := by decide +kernel
theorem dX5_init_24 : decode cX5_init 24 = .ok (.aload_n 0, 1) := by decide +kernel
theorem dX5_init_25 : decode cX5_init 25 = .ok (.bipush 6, 2) := by decide +kernel
theorem dX5_init_27 : decode cX5_init 27 = .ok (.newarray .int, 2) := by decide +kernel
theorem dX5_init_29 : decode cX5_init 29 = .ok (.putfield 20, 3) := by decide +kernel
theorem dX5_init_32 : decode cX5_init 32 = .ok (.aload_n 0, 1) := by decide +kernel
theorem dX5_init_33 : decode cX5_init 33 = .ok (.iconst 0, 1) := by decide +kernel
theorem dX5_init_34 : decode cX5_init 34 = .ok (.putfield 23, 3) := by decide +kernel
theorem dX5_init_37 : decode cX5_init 37 = .ok (.aload_n 0, 1) := by decide +kernel
theorem dX5_init_38 : decode cX5_init 38 = .ok (.iconst 0, 1) := by decide +kernel
theorem dX5_init_39 : decode cX5_init 39 = .ok (.putfield 27, 3) := by decide +kernel
theorem dX5_init_42 : decode cX5_init 42 = .ok (.return_, 1) := by decide +kernel
set_option maxRecDepth 20000 in
theorem ggX5_plan_X4_needsOf : GoodIn wsX5_plan wsX4_needsOf := goodIn_r _ [13, 14, 15, 16, 17, 12, 18, 19, 90, 91, 92, 93, 94, 95, 96, 97, 98] (by decide +kernel) (by decide +kernel)
set_option maxRecDepth 20000 in
theorem gX5_plan_X4_needsOf : GoodIn wsX5_plan (wsV RX5 30 RX4 yX4_needsOf wsX4_needsOf) := goodIn_app (goodIn_of _ (by decide +kernel)) ggX5_plan_X4_needsOf
set_option maxRecDepth 20000 in
theorem ggX5_plan_X4_membersOf : GoodIn wsX5_plan wsX4_membersOf := goodIn_r _ [23, 24, 25, 90, 91, 92, 93, 94, 95, 96, 97, 98] (by decide +kernel) (by decide +kernel)
set_option maxRecDepth 20000 in
theorem gX5_plan_X4_membersOf : GoodIn wsX5_plan (wsV RX5 36 RX4 yX4_membersOf wsX4_membersOf) := goodIn_app (goodIn_of _ (by decide +kernel)) ggX5_plan_X4_membersOf
set_option maxRecDepth 20000 in
theorem ggX5_plan_J6_bitCount_0f7a4 : GoodIn wsX5_plan wsJ6_bitCount_0f7a4 := goodIn_r _ [29, 30, 31, 32] (by decide +kernel) (by decide +kernel)
set_option maxRecDepth 20000 in
theorem gX5_plan_J6_bitCount_0f7a4 : GoodIn wsX5_plan (va_wsS RX5 39 yJ6_bitCount_0f7a4 wsJ6_bitCount_0f7a4) := goodIn_app (goodIn_of _ (by decide +kernel)) ggX5_plan_J6_bitCount_0f7a4
set_option maxRecDepth 20000 in
theorem ggX5_plan_X5_findSets : GoodIn wsX5_plan wsX5_findSets := goodIn_r _ [37, 38, 8, 39, 40, 41, 42, 12, 43, 24, 26, 27, 28, 29, 30, 31, 32, 44, 45, 46, 47, 48, 49, 50, 51, 52, 53, 54, 55, 56, 57, 58, 59, 60, 61, 85, 86, 87, 88, 89, 90, 91, 92, 93, 94, 95, 96, 97, 98] (by decide +kernel) (by decide +kernel)
set_option maxRecDepth 20000 in
theorem gX5_plan_X5_findSets : GoodIn wsX5_plan (wsV RX5 50 RX5 yX5_findSets wsX5_findSets) := goodIn_app (goodIn_of _ (by decide +kernel)) ggX5_plan_X5_findSets
set_option maxRecDepth 20000 in
theorem ggX5_plan_X5_leastOf : GoodIn wsX5_plan wsX5_leastOf := goodIn_r _ [65, 8, 6, 2, 3, 4, 5, 66, 67, 68, 36, 69, 38, 70, 71, 72, 73, 1, 74, 75, 76, 77, 78, 79, 80, 81, 82, 83, 84, 7, 85, 86, 87, 88, 89] (by decide +kernel) (by decide +kernel)
set_option maxRecDepth 20000 in
theorem gX5_plan_X5_leastOf : GoodIn wsX5_plan (wsV RX5 55 RX5 yX5_leastOf wsX5_leastOf) := goodIn_app (goodIn_of _ (by decide +kernel)) ggX5_plan_X5_leastOf
theorem dX5_plan_0 : decode cX5_plan 0 = .ok (.aload_n 0, 1) := by decide +kernel
theorem dX5_plan_1 : decode cX5_plan 1 = .ok (.aload_n 1, 1) := by decide +kernel
theorem dX5_plan_2 : decode cX5_plan 2 = .ok (.iload_n 2, 1) := by decide +kernel
theorem dX5_plan_3 : decode cX5_plan 3 = .ok (.invokevirtual 30, 3) := by decide +kernel
theorem dX5_plan_6 : decode cX5_plan 6 = .ok (.putfield 23, 3) := by decide +kernel
theorem dX5_plan_9 : decode cX5_plan 9 = .ok (.aload_n 1, 1) := by decide +kernel
theorem dX5_plan_10 : decode cX5_plan 10 = .ok (.iload_n 2, 1) := by decide +kernel
theorem dX5_plan_11 : decode cX5_plan 11 = .ok (.invokevirtual 36, 3) := by decide +kernel
theorem dX5_plan_14 : decode cX5_plan 14 = .ok (.istore 4, 2) := by decide +kernel
theorem dX5_plan_16 : decode cX5_plan 16 = .ok (.aload_n 0, 1) := by decide +kernel
theorem dX5_plan_17 : decode cX5_plan 17 = .ok (.iconst 5, 1) := by decide +kernel
theorem dX5_plan_18 : decode cX5_plan 18 = .ok (.iload 4, 2) := by decide +kernel
theorem dX5_plan_20 : decode cX5_plan 20 = .ok (.invokestatic 39, 3) := by decide +kernel
theorem dX5_plan_23 : decode cX5_plan 23 = .ok (.invokestatic 44, 3) := by decide +kernel
theorem dX5_plan_26 : decode cX5_plan 26 = .ok (.putfield 27, 3) := by decide +kernel
theorem dX5_plan_29 : decode cX5_plan 29 = .ok (.aload_n 0, 1) := by decide +kernel
theorem dX5_plan_30 : decode cX5_plan 30 = .ok (.aload_n 1, 1) := by decide +kernel
theorem dX5_plan_31 : decode cX5_plan 31 = .ok (.iload 4, 2) := by decide +kernel
theorem dX5_plan_33 : decode cX5_plan 33 = .ok (.invokevirtual 50, 3) := by decide +kernel
theorem dX5_plan_36 : decode cX5_plan 36 = .ok (.bipush 124, 2) := by decide +kernel
theorem dX5_plan_38 : decode cX5_plan 38 = .ok (.aload_n 0, 1) := by decide +kernel
theorem dX5_plan_39 : decode cX5_plan 39 = .ok (.getfield 23, 3) := by decide +kernel
theorem dX5_plan_42 : decode cX5_plan 42 = .ok (.iconst 1, 1) := by decide +kernel
theorem dX5_plan_43 : decode cX5_plan 43 = .ok (.iadd, 1) := by decide +kernel
theorem dX5_plan_44 : decode cX5_plan 44 = .ok (.iconst 4, 1) := by decide +kernel
theorem dX5_plan_45 : decode cX5_plan 45 = .ok (.imul, 1) := by decide +kernel
theorem dX5_plan_46 : decode cX5_plan 46 = .ok (.invokestatic 44, 3) := by decide +kernel
theorem dX5_plan_49 : decode cX5_plan 49 = .ok (.istore 5, 2) := by decide +kernel
theorem dX5_plan_51 : decode cX5_plan 51 = .ok (.iconst 0, 1) := by decide +kernel
theorem dX5_plan_52 : decode cX5_plan 52 = .ok (.istore 6, 2) := by decide +kernel
theorem dX5_plan_54 : decode cX5_plan 54 = .ok (.iload 6, 2) := by decide +kernel
theorem dX5_plan_56 : decode cX5_plan 56 = .ok (.iload 5, 2) := by decide +kernel
theorem dX5_plan_58 : decode cX5_plan 58 = .ok (.if_icmp .ge 35, 3) := by decide +kernel
theorem dX5_plan_61 : decode cX5_plan 61 = .ok (.aload_n 0, 1) := by decide +kernel
theorem dX5_plan_62 : decode cX5_plan 62 = .ok (.getfield 11, 3) := by decide +kernel
theorem dX5_plan_65 : decode cX5_plan 65 = .ok (.iconst 0, 1) := by decide +kernel
theorem dX5_plan_66 : decode cX5_plan 66 = .ok (.aaload, 1) := by decide +kernel
theorem dX5_plan_67 : decode cX5_plan 67 = .ok (.iload 6, 2) := by decide +kernel
theorem dX5_plan_69 : decode cX5_plan 69 = .ok (.iload 6, 2) := by decide +kernel
theorem dX5_plan_71 : decode cX5_plan 71 = .ok (.iconst 4, 1) := by decide +kernel
theorem dX5_plan_72 : decode cX5_plan 72 = .ok (.idiv, 1) := by decide +kernel
theorem dX5_plan_73 : decode cX5_plan 73 = .ok (.aload_n 0, 1) := by decide +kernel
theorem dX5_plan_74 : decode cX5_plan 74 = .ok (.getfield 23, 3) := by decide +kernel
theorem dX5_plan_77 : decode cX5_plan 77 = .ok (.if_icmp .ne 7, 3) := by decide +kernel
theorem dX5_plan_80 : decode cX5_plan 80 = .ok (.iconst 0, 1) := by decide +kernel
theorem dX5_plan_81 : decode cX5_plan 81 = .ok (.goto 5, 3) := by decide +kernel
theorem dX5_plan_84 : decode cX5_plan 84 = .ok (.ldc 54, 2) := by decide +kernel
theorem dX5_plan_86 : decode cX5_plan 86 = .ok (.iastore, 1) := by decide +kernel
theorem dX5_plan_87 : decode cX5_plan 87 = .ok (.iinc 6 1, 3) := by decide +kernel
theorem dX5_plan_90 : decode cX5_plan 90 = .ok (.goto (-36), 3) := by decide +kernel
theorem dX5_plan_93 : decode cX5_plan 93 = .ok (.iconst 1, 1) := by decide +kernel
theorem dX5_plan_94 : decode cX5_plan 94 = .ok (.istore 6, 2) := by decide +kernel
theorem dX5_plan_96 : decode cX5_plan 96 = .ok (.iload 6, 2) := by decide +kernel
theorem dX5_plan_98 : decode cX5_plan 98 = .ok (.iload_n 3, 1) := by decide +kernel
theorem dX5_plan_99 : decode cX5_plan 99 = .ok (.if_icmp .gt 50, 3) := by decide +kernel
theorem dX5_plan_102 : decode cX5_plan 102 = .ok (.iload 6, 2) := by decide +kernel
theorem dX5_plan_104 : decode cX5_plan 104 = .ok (.bipush 6, 2) := by decide +kernel
theorem dX5_plan_106 : decode cX5_plan 106 = .ok (.if_icmp .gt 43, 3) := by decide +kernel
theorem dX5_plan_109 : decode cX5_plan 109 = .ok (.iconst 0, 1) := by decide +kernel
theorem dX5_plan_110 : decode cX5_plan 110 = .ok (.istore 7, 2) := by decide +kernel
theorem dX5_plan_112 : decode cX5_plan 112 = .ok (.iload 7, 2) := by decide +kernel
theorem dX5_plan_114 : decode cX5_plan 114 = .ok (.iload 5, 2) := by decide +kernel
theorem dX5_plan_116 : decode cX5_plan 116 = .ok (.if_icmp .ge 27, 3) := by decide +kernel
theorem dX5_plan_119 : decode cX5_plan 119 = .ok (.aload_n 0, 1) := by decide +kernel
theorem dX5_plan_120 : decode cX5_plan 120 = .ok (.getfield 11, 3) := by decide +kernel
theorem dX5_plan_123 : decode cX5_plan 123 = .ok (.iload 6, 2) := by decide +kernel
theorem dX5_plan_125 : decode cX5_plan 125 = .ok (.aaload, 1) := by decide +kernel
theorem dX5_plan_126 : decode cX5_plan 126 = .ok (.iload 7, 2) := by decide +kernel
theorem dX5_plan_128 : decode cX5_plan 128 = .ok (.aload_n 0, 1) := by decide +kernel
theorem dX5_plan_129 : decode cX5_plan 129 = .ok (.iload 6, 2) := by decide +kernel
theorem dX5_plan_131 : decode cX5_plan 131 = .ok (.iload 7, 2) := by decide +kernel
theorem dX5_plan_133 : decode cX5_plan 133 = .ok (.invokevirtual 55, 3) := by decide +kernel
theorem dX5_plan_136 : decode cX5_plan 136 = .ok (.iastore, 1) := by decide +kernel
theorem dX5_plan_137 : decode cX5_plan 137 = .ok (.iinc 7 1, 3) := by decide +kernel
theorem dX5_plan_140 : decode cX5_plan 140 = .ok (.goto (-28), 3) := by decide +kernel
theorem dX5_plan_143 : decode cX5_plan 143 = .ok (.iinc 6 1, 3) := by decide +kernel
theorem dX5_plan_146 : decode cX5_plan 146 = .ok (.goto (-50), 3) := by decide +kernel
theorem dX5_plan_149 : decode cX5_plan 149 = .ok (.return_, 1) := by decide +kernel
set_option maxRecDepth 20000 in
theorem ggX5_leastTrouble_X5_leastFrom : GoodIn wsX5_leastTrouble wsX5_leastFrom := goodIn_r _ [6, 7, 1, 8, 9, 10, 11, 12] (by decide +kernel) (by decide +kernel)
set_option maxRecDepth 20000 in
theorem gX5_leastTrouble_X5_leastFrom : GoodIn wsX5_leastTrouble (wsV RX5 58 RX5 yX5_leastFrom wsX5_leastFrom) := goodIn_app (goodIn_of _ (by decide +kernel)) ggX5_leastTrouble_X5_leastFrom
theorem dX5_leastTrouble_0 : decode cX5_leastTrouble 0 = .ok (.aload_n 0, 1) := by decide +kernel
theorem dX5_leastTrouble_1 : decode cX5_leastTrouble 1 = .ok (.iload_n 1, 1) := by decide +kernel
theorem dX5_leastTrouble_2 : decode cX5_leastTrouble 2 = .ok (.iload_n 2, 1) := by decide +kernel
theorem dX5_leastTrouble_3 : decode cX5_leastTrouble 3 = .ok (.invokevirtual 58, 3) := by decide +kernel
theorem dX5_leastTrouble_6 : decode cX5_leastTrouble 6 = .ok (.istore_n 3, 1) := by decide +kernel
theorem dX5_leastTrouble_7 : decode cX5_leastTrouble 7 = .ok (.iload_n 3, 1) := by decide +kernel
theorem dX5_leastTrouble_8 : decode cX5_leastTrouble 8 = .ok (.ldc 54, 2) := by decide +kernel
theorem dX5_leastTrouble_10 : decode cX5_leastTrouble 10 = .ok (.if_icmp .ge 7, 3) := by decide +kernel
theorem dX5_leastTrouble_13 : decode cX5_leastTrouble 13 = .ok (.iload_n 3, 1) := by decide +kernel
theorem dX5_leastTrouble_14 : decode cX5_leastTrouble 14 = .ok (.goto 5, 3) := by decide +kernel
theorem dX5_leastTrouble_17 : decode cX5_leastTrouble 17 = .ok (.bipush (-9), 2) := by decide +kernel
theorem dX5_leastTrouble_19 : decode cX5_leastTrouble 19 = .ok (.ireturn, 1) := by decide +kernel
set_option maxRecDepth 20000 in
theorem ggX5_setOfDinner_X5_leastTrouble : GoodIn wsX5_setOfDinner wsX5_leastTrouble := goodIn_r _ [6, 7, 8, 9, 10, 5, 11, 12, 39, 40, 41, 42, 43] (by decide +kernel) (by decide +kernel)
set_option maxRecDepth 20000 in
theorem gX5_setOfDinner_X5_leastTrouble : GoodIn wsX5_setOfDinner (wsV RX5 61 RX5 yX5_leastTrouble wsX5_leastTrouble) := goodIn_app (goodIn_of _ (by decide +kernel)) ggX5_setOfDinner_X5_leastTrouble
set_option maxRecDepth 20000 in
theorem ggX5_setOfDinner_X5_firstChoice : GoodIn wsX5_setOfDinner wsX5_firstChoice := goodIn_r _ [16, 17, 1, 18, 19, 20, 21, 8, 9, 10, 5, 11, 12, 7, 22, 23, 24, 25, 26, 27, 28, 29, 30, 31, 32, 33, 34, 35, 36, 37, 38, 39, 40, 41, 42, 43] (by decide +kernel) (by decide +kernel)
set_option maxRecDepth 20000 in
theorem gX5_setOfDinner_X5_firstChoice : GoodIn wsX5_setOfDinner (wsV RX5 64 RX5 yX5_firstChoice wsX5_firstChoice) := goodIn_app (goodIn_of _ (by decide +kernel)) ggX5_setOfDinner_X5_firstChoice
set_option maxRecDepth 20000 in
theorem ggX5_setOfDinner_X5_behind : GoodIn wsX5_setOfDinner wsX5_behind := goodIn_r _ [30, 31, 17, 32, 33, 34, 35, 36, 20, 37, 38, 19, 21, 39, 40, 41, 42, 43] (by decide +kernel) (by decide +kernel)
set_option maxRecDepth 20000 in
theorem gX5_setOfDinner_X5_behind : GoodIn wsX5_setOfDinner (wsV RX5 67 RX5 yX5_behind wsX5_behind) := goodIn_app (goodIn_of _ (by decide +kernel)) ggX5_setOfDinner_X5_behind
theorem dX5_setOfDinner_0 : decode cX5_setOfDinner 0 = .ok (.iload_n 2, 1) := by decide +kernel
theorem dX5_setOfDinner_1 : decode cX5_setOfDinner 1 = .ok (.ifCond .lt 19, 3) := by decide +kernel
theorem dX5_setOfDinner_4 : decode cX5_setOfDinner 4 = .ok (.iload_n 2, 1) := by decide +kernel
theorem dX5_setOfDinner_5 : decode cX5_setOfDinner 5 = .ok (.iload_n 1, 1) := by decide +kernel
theorem dX5_setOfDinner_6 : decode cX5_setOfDinner 6 = .ok (.if_icmp .ge 14, 3) := by decide +kernel
theorem dX5_setOfDinner_9 : decode cX5_setOfDinner 9 = .ok (.aload_n 0, 1) := by decide +kernel
theorem dX5_setOfDinner_10 : decode cX5_setOfDinner 10 = .ok (.iload_n 1, 1) := by decide +kernel
theorem dX5_setOfDinner_11 : decode cX5_setOfDinner 11 = .ok (.iload_n 3, 1) := by decide +kernel
theorem dX5_setOfDinner_12 : decode cX5_setOfDinner 12 = .ok (.invokevirtual 61, 3) := by decide +kernel
theorem dX5_setOfDinner_15 : decode cX5_setOfDinner 15 = .ok (.bipush (-9), 2) := by decide +kernel
theorem dX5_setOfDinner_17 : decode cX5_setOfDinner 17 = .ok (.if_icmp .ne 6, 3) := by decide +kernel
theorem dX5_setOfDinner_20 : decode cX5_setOfDinner 20 = .ok (.bipush (-9), 2) := by decide +kernel
theorem dX5_setOfDinner_22 : decode cX5_setOfDinner 22 = .ok (.ireturn, 1) := by decide +kernel
theorem dX5_setOfDinner_23 : decode cX5_setOfDinner 23 = .ok (.iload_n 3, 1) := by decide +kernel
theorem dX5_setOfDinner_24 : decode cX5_setOfDinner 24 = .ok (.istore 4, 2) := by decide +kernel
theorem dX5_setOfDinner_26 : decode cX5_setOfDinner 26 = .ok (.iconst 0, 1) := by decide +kernel
theorem dX5_setOfDinner_27 : decode cX5_setOfDinner 27 = .ok (.istore 5, 2) := by decide +kernel
theorem dX5_setOfDinner_29 : decode cX5_setOfDinner 29 = .ok (.iload 5, 2) := by decide +kernel
theorem dX5_setOfDinner_31 : decode cX5_setOfDinner 31 = .ok (.iload_n 2, 1) := by decide +kernel
theorem dX5_setOfDinner_32 : decode cX5_setOfDinner 32 = .ok (.if_icmp .ge 27, 3) := by decide +kernel
theorem dX5_setOfDinner_35 : decode cX5_setOfDinner 35 = .ok (.aload_n 0, 1) := by decide +kernel
theorem dX5_setOfDinner_36 : decode cX5_setOfDinner 36 = .ok (.iload 4, 2) := by decide +kernel
theorem dX5_setOfDinner_38 : decode cX5_setOfDinner 38 = .ok (.aload_n 0, 1) := by decide +kernel
theorem dX5_setOfDinner_39 : decode cX5_setOfDinner 39 = .ok (.iload_n 1, 1) := by decide +kernel
theorem dX5_setOfDinner_40 : decode cX5_setOfDinner 40 = .ok (.iload 5, 2) := by decide +kernel
theorem dX5_setOfDinner_42 : decode cX5_setOfDinner 42 = .ok (.isub, 1) := by decide +kernel
theorem dX5_setOfDinner_43 : decode cX5_setOfDinner 43 = .ok (.iload 4, 2) := by decide +kernel
theorem dX5_setOfDinner_45 : decode cX5_setOfDinner 45 = .ok (.invokevirtual 64, 3) := by decide +kernel
theorem dX5_setOfDinner_48 : decode cX5_setOfDinner 48 = .ok (.invokevirtual 67, 3) := by decide +kernel
theorem dX5_setOfDinner_51 : decode cX5_setOfDinner 51 = .ok (.istore 4, 2) := by decide +kernel
theorem dX5_setOfDinner_53 : decode cX5_setOfDinner 53 = .ok (.iinc 5 1, 3) := by decide +kernel
theorem dX5_setOfDinner_56 : decode cX5_setOfDinner 56 = .ok (.goto (-27), 3) := by decide +kernel
theorem dX5_setOfDinner_59 : decode cX5_setOfDinner 59 = .ok (.aload_n 0, 1) := by decide +kernel
theorem dX5_setOfDinner_60 : decode cX5_setOfDinner 60 = .ok (.getfield 20, 3) := by decide +kernel
theorem dX5_setOfDinner_63 : decode cX5_setOfDinner 63 = .ok (.aload_n 0, 1) := by decide +kernel
theorem dX5_setOfDinner_64 : decode cX5_setOfDinner 64 = .ok (.iload_n 1, 1) := by decide +kernel
theorem dX5_setOfDinner_65 : decode cX5_setOfDinner 65 = .ok (.iload_n 2, 1) := by decide +kernel
theorem dX5_setOfDinner_66 : decode cX5_setOfDinner 66 = .ok (.isub, 1) := by decide +kernel
theorem dX5_setOfDinner_67 : decode cX5_setOfDinner 67 = .ok (.iload 4, 2) := by decide +kernel
theorem dX5_setOfDinner_69 : decode cX5_setOfDinner 69 = .ok (.invokevirtual 64, 3) := by decide +kernel
theorem dX5_setOfDinner_72 : decode cX5_setOfDinner 72 = .ok (.iaload, 1) := by decide +kernel
theorem dX5_setOfDinner_73 : decode cX5_setOfDinner 73 = .ok (.ireturn, 1) := by decide +kernel
set_option maxRecDepth 20000 in
theorem ggX5_findSets_X4_everyone : GoodIn wsX5_findSets wsX4_everyone := goodIn_r _ [8, 9, 40, 41, 42, 43, 44, 45, 46, 47, 48] (by decide +kernel) (by decide +kernel)
set_option maxRecDepth 20000 in
theorem gX5_findSets_X4_everyone : GoodIn wsX5_findSets (wsV RX5 70 RX4 yX4_everyone wsX4_everyone) := goodIn_app (goodIn_of _ (by decide +kernel)) ggX5_findSets_X4_everyone
set_option maxRecDepth 20000 in
theorem ggX5_findSets_J6_bitCount_0f7a4 : GoodIn wsX5_findSets wsJ6_bitCount_0f7a4 := goodIn_r _ [13, 14, 15, 16] (by decide +kernel) (by decide +kernel)
set_option maxRecDepth 20000 in
theorem gX5_findSets_J6_bitCount_0f7a4 : GoodIn wsX5_findSets (va_wsS RX5 39 yJ6_bitCount_0f7a4 wsJ6_bitCount_0f7a4) := goodIn_app (goodIn_of _ (by decide +kernel)) ggX5_findSets_J6_bitCount_0f7a4
set_option maxRecDepth 20000 in
theorem ggX5_findSets_X4_troubleIf : GoodIn wsX5_findSets wsX4_troubleIf := goodIn_r _ [20, 9, 21, 22, 23, 24, 7, 25, 26, 27, 28, 29, 30, 31, 32, 33, 34, 40, 41, 42, 43, 44, 45, 46, 47, 48] (by decide +kernel) (by decide +kernel)
set_option maxRecDepth 20000 in
theorem gX5_findSets_X4_troubleIf : GoodIn wsX5_findSets (wsV RX5 74 RX4 yX4_troubleIf wsX4_troubleIf) := goodIn_app (goodIn_of _ (by decide +kernel)) ggX5_findSets_X4_troubleIf
theorem dX5_findSets_0 : decode cX5_findSets 0 = .ok (.iconst 0, 1) := by decide +kernel
theorem dX5_findSets_1 : decode cX5_findSets 1 = .ok (.istore_n 3, 1) := by decide +kernel
theorem dX5_findSets_2 : decode cX5_findSets 2 = .ok (.iload_n 3, 1) := by decide +kernel
theorem dX5_findSets_3 : decode cX5_findSets 3 = .ok (.iconst 5, 1) := by decide +kernel
theorem dX5_findSets_4 : decode cX5_findSets 4 = .ok (.if_icmp .gt 24, 3) := by decide +kernel
theorem dX5_findSets_7 : decode cX5_findSets 7 = .ok (.aload_n 0, 1) := by decide +kernel
theorem dX5_findSets_8 : decode cX5_findSets 8 = .ok (.getfield 16, 3) := by decide +kernel
theorem dX5_findSets_11 : decode cX5_findSets 11 = .ok (.iload_n 3, 1) := by decide +kernel
theorem dX5_findSets_12 : decode cX5_findSets 12 = .ok (.ldc 54, 2) := by decide +kernel
theorem dX5_findSets_14 : decode cX5_findSets 14 = .ok (.iastore, 1) := by decide +kernel
theorem dX5_findSets_15 : decode cX5_findSets 15 = .ok (.aload_n 0, 1) := by decide +kernel
theorem dX5_findSets_16 : decode cX5_findSets 16 = .ok (.getfield 20, 3) := by decide +kernel
theorem dX5_findSets_19 : decode cX5_findSets 19 = .ok (.iload_n 3, 1) := by decide +kernel
theorem dX5_findSets_20 : decode cX5_findSets 20 = .ok (.iconst 0, 1) := by decide +kernel
theorem dX5_findSets_21 : decode cX5_findSets 21 = .ok (.iastore, 1) := by decide +kernel
theorem dX5_findSets_22 : decode cX5_findSets 22 = .ok (.iinc 3 1, 3) := by decide +kernel
theorem dX5_findSets_25 : decode cX5_findSets 25 = .ok (.goto (-23), 3) := by decide +kernel
theorem dX5_findSets_28 : decode cX5_findSets 28 = .ok (.aload_n 1, 1) := by decide +kernel
theorem dX5_findSets_29 : decode cX5_findSets 29 = .ok (.invokevirtual 70, 3) := by decide +kernel
theorem dX5_findSets_32 : decode cX5_findSets 32 = .ok (.istore_n 3, 1) := by decide +kernel
theorem dX5_findSets_33 : decode cX5_findSets 33 = .ok (.iconst 0, 1) := by decide +kernel
theorem dX5_findSets_34 : decode cX5_findSets 34 = .ok (.istore 4, 2) := by decide +kernel
theorem dX5_findSets_36 : decode cX5_findSets 36 = .ok (.iload 4, 2) := by decide +kernel
theorem dX5_findSets_38 : decode cX5_findSets 38 = .ok (.iload_n 3, 1) := by decide +kernel
theorem dX5_findSets_39 : decode cX5_findSets 39 = .ok (.if_icmp .gt 62, 3) := by decide +kernel
theorem dX5_findSets_42 : decode cX5_findSets 42 = .ok (.iload 4, 2) := by decide +kernel
theorem dX5_findSets_44 : decode cX5_findSets 44 = .ok (.iload_n 2, 1) := by decide +kernel
theorem dX5_findSets_45 : decode cX5_findSets 45 = .ok (.iand, 1) := by decide +kernel
theorem dX5_findSets_46 : decode cX5_findSets 46 = .ok (.invokestatic 39, 3) := by decide +kernel
theorem dX5_findSets_49 : decode cX5_findSets 49 = .ok (.istore 5, 2) := by decide +kernel
theorem dX5_findSets_51 : decode cX5_findSets 51 = .ok (.aload_n 1, 1) := by decide +kernel
theorem dX5_findSets_52 : decode cX5_findSets 52 = .ok (.iload 4, 2) := by decide +kernel
theorem dX5_findSets_54 : decode cX5_findSets 54 = .ok (.invokevirtual 74, 3) := by decide +kernel
theorem dX5_findSets_57 : decode cX5_findSets 57 = .ok (.istore 6, 2) := by decide +kernel
theorem dX5_findSets_59 : decode cX5_findSets 59 = .ok (.iload 5, 2) := by decide +kernel
theorem dX5_findSets_61 : decode cX5_findSets 61 = .ok (.iconst 5, 1) := by decide +kernel
theorem dX5_findSets_62 : decode cX5_findSets 62 = .ok (.if_icmp .gt 33, 3) := by decide +kernel
theorem dX5_findSets_65 : decode cX5_findSets 65 = .ok (.iload 6, 2) := by decide +kernel
theorem dX5_findSets_67 : decode cX5_findSets 67 = .ok (.aload_n 0, 1) := by decide +kernel
theorem dX5_findSets_68 : decode cX5_findSets 68 = .ok (.getfield 16, 3) := by decide +kernel
theorem dX5_findSets_71 : decode cX5_findSets 71 = .ok (.iload 5, 2) := by decide +kernel
theorem dX5_findSets_73 : decode cX5_findSets 73 = .ok (.iaload, 1) := by decide +kernel
theorem dX5_findSets_74 : decode cX5_findSets 74 = .ok (.if_icmp .ge 21, 3) := by decide +kernel
theorem dX5_findSets_77 : decode cX5_findSets 77 = .ok (.aload_n 0, 1) := by decide +kernel
theorem dX5_findSets_78 : decode cX5_findSets 78 = .ok (.getfield 16, 3) := by decide +kernel
theorem dX5_findSets_81 : decode cX5_findSets 81 = .ok (.iload 5, 2) := by decide +kernel
theorem dX5_findSets_83 : decode cX5_findSets 83 = .ok (.iload 6, 2) := by decide +kernel
theorem dX5_findSets_85 : decode cX5_findSets 85 = .ok (.iastore, 1) := by decide +kernel
theorem dX5_findSets_86 : decode cX5_findSets 86 = .ok (.aload_n 0, 1) := by decide +kernel
theorem dX5_findSets_87 : decode cX5_findSets 87 = .ok (.getfield 20, 3) := by decide +kernel
theorem dX5_findSets_90 : decode cX5_findSets 90 = .ok (.iload 5, 2) := by decide +kernel
theorem dX5_findSets_92 : decode cX5_findSets 92 = .ok (.iload 4, 2) := by decide +kernel
theorem dX5_findSets_94 : decode cX5_findSets 94 = .ok (.iastore, 1) := by decide +kernel
theorem dX5_findSets_95 : decode cX5_findSets 95 = .ok (.iinc 4 1, 3) := by decide +kernel
theorem dX5_findSets_98 : decode cX5_findSets 98 = .ok (.goto (-62), 3) := by decide +kernel
theorem dX5_findSets_101 : decode cX5_findSets 101 = .ok (.return_, 1) := by decide +kernel
theorem dX5_leastFrom_0 : decode cX5_leastFrom 0 = .ok (.iload_n 1, 1) := by decide +kernel
theorem dX5_leastFrom_1 : decode cX5_leastFrom 1 = .ok (.ifCond .lt 23, 3) := by decide +kernel
theorem dX5_leastFrom_4 : decode cX5_leastFrom 4 = .ok (.iload_n 1, 1) := by decide +kernel
theorem dX5_leastFrom_5 : decode cX5_leastFrom 5 = .ok (.bipush 6, 2) := by decide +kernel
theorem dX5_leastFrom_7 : decode cX5_leastFrom 7 = .ok (.if_icmp .gt 17, 3) := by decide +kernel
theorem dX5_leastFrom_10 : decode cX5_leastFrom 10 = .ok (.iload_n 2, 1) := by decide +kernel
theorem dX5_leastFrom_11 : decode cX5_leastFrom 11 = .ok (.ifCond .lt 13, 3) := by decide +kernel
theorem dX5_leastFrom_14 : decode cX5_leastFrom 14 = .ok (.iload_n 2, 1) := by decide +kernel
theorem dX5_leastFrom_15 : decode cX5_leastFrom 15 = .ok (.bipush 124, 2) := by decide +kernel
theorem dX5_leastFrom_17 : decode cX5_leastFrom 17 = .ok (.if_icmp .ge 7, 3) := by decide +kernel
theorem dX5_leastFrom_20 : decode cX5_leastFrom 20 = .ok (.iconst 1, 1) := by decide +kernel
theorem dX5_leastFrom_21 : decode cX5_leastFrom 21 = .ok (.goto 4, 3) := by decide +kernel
theorem dX5_leastFrom_24 : decode cX5_leastFrom 24 = .ok (.iconst 0, 1) := by decide +kernel
theorem dX5_leastFrom_25 : decode cX5_leastFrom 25 = .ok (.istore_n 3, 1) := by decide +kernel
theorem dX5_leastFrom_26 : decode cX5_leastFrom 26 = .ok (.iload_n 3, 1) := by decide +kernel
theorem dX5_leastFrom_27 : decode cX5_leastFrom 27 = .ok (.ifCond .eq 14, 3) := by decide +kernel
theorem dX5_leastFrom_30 : decode cX5_leastFrom 30 = .ok (.aload_n 0, 1) := by decide +kernel
theorem dX5_leastFrom_31 : decode cX5_leastFrom 31 = .ok (.getfield 11, 3) := by decide +kernel
theorem dX5_leastFrom_34 : decode cX5_leastFrom 34 = .ok (.iload_n 1, 1) := by decide +kernel
theorem dX5_leastFrom_35 : decode cX5_leastFrom 35 = .ok (.aaload, 1) := by decide +kernel
theorem dX5_leastFrom_36 : decode cX5_leastFrom 36 = .ok (.iload_n 2, 1) := by decide +kernel
theorem dX5_leastFrom_37 : decode cX5_leastFrom 37 = .ok (.iaload, 1) := by decide +kernel
theorem dX5_leastFrom_38 : decode cX5_leastFrom 38 = .ok (.goto 5, 3) := by decide +kernel
theorem dX5_leastFrom_41 : decode cX5_leastFrom 41 = .ok (.ldc 54, 2) := by decide +kernel
theorem dX5_leastFrom_43 : decode cX5_leastFrom 43 = .ok (.ireturn, 1) := by decide +kernel
set_option maxRecDepth 20000 in
theorem ggX5_leastOf_X5_troubleWith : GoodIn wsX5_leastOf wsX5_troubleWith := goodIn_r _ [11, 1, 12, 13, 14, 15, 10, 16, 17, 2, 18, 19, 20, 21, 4, 5, 6, 22, 23, 24, 25, 26, 27, 28, 29, 30, 31, 32, 33, 34] (by decide +kernel) (by decide +kernel)
set_option maxRecDepth 20000 in
theorem gX5_leastOf_X5_troubleWith : GoodIn wsX5_leastOf (wsV RX5 77 RX5 yX5_troubleWith wsX5_troubleWith) := goodIn_app (goodIn_of _ (by decide +kernel)) ggX5_leastOf_X5_troubleWith
theorem dX5_leastOf_0 : decode cX5_leastOf 0 = .ok (.ldc 54, 2) := by decide +kernel
theorem dX5_leastOf_2 : decode cX5_leastOf 2 = .ok (.istore_n 3, 1) := by decide +kernel
theorem dX5_leastOf_3 : decode cX5_leastOf 3 = .ok (.iconst 0, 1) := by decide +kernel
theorem dX5_leastOf_4 : decode cX5_leastOf 4 = .ok (.istore 4, 2) := by decide +kernel
theorem dX5_leastOf_6 : decode cX5_leastOf 6 = .ok (.iload 4, 2) := by decide +kernel
theorem dX5_leastOf_8 : decode cX5_leastOf 8 = .ok (.aload_n 0, 1) := by decide +kernel
theorem dX5_leastOf_9 : decode cX5_leastOf 9 = .ok (.getfield 27, 3) := by decide +kernel
theorem dX5_leastOf_12 : decode cX5_leastOf 12 = .ok (.if_icmp .gt 22, 3) := by decide +kernel
theorem dX5_leastOf_15 : decode cX5_leastOf 15 = .ok (.iload_n 3, 1) := by decide +kernel
theorem dX5_leastOf_16 : decode cX5_leastOf 16 = .ok (.aload_n 0, 1) := by decide +kernel
theorem dX5_leastOf_17 : decode cX5_leastOf 17 = .ok (.iload_n 1, 1) := by decide +kernel
theorem dX5_leastOf_18 : decode cX5_leastOf 18 = .ok (.iload_n 2, 1) := by decide +kernel
theorem dX5_leastOf_19 : decode cX5_leastOf 19 = .ok (.iload 4, 2) := by decide +kernel
theorem dX5_leastOf_21 : decode cX5_leastOf 21 = .ok (.invokevirtual 77, 3) := by decide +kernel
theorem dX5_leastOf_24 : decode cX5_leastOf 24 = .ok (.invokestatic 44, 3) := by decide +kernel
theorem dX5_leastOf_27 : decode cX5_leastOf 27 = .ok (.istore_n 3, 1) := by decide +kernel
theorem dX5_leastOf_28 : decode cX5_leastOf 28 = .ok (.iinc 4 1, 3) := by decide +kernel
theorem dX5_leastOf_31 : decode cX5_leastOf 31 = .ok (.goto (-25), 3) := by decide +kernel
theorem dX5_leastOf_34 : decode cX5_leastOf 34 = .ok (.iload_n 3, 1) := by decide +kernel
theorem dX5_leastOf_35 : decode cX5_leastOf 35 = .ok (.ireturn, 1) := by decide +kernel
set_option maxRecDepth 20000 in
theorem ggX5_troubleWith_X5_behind : GoodIn wsX5_troubleWith wsX5_behind := goodIn_r _ [7, 8, 9, 10, 11, 12, 13, 14, 15, 16, 17, 18, 19, 25, 26, 27, 28, 29] (by decide +kernel) (by decide +kernel)
set_option maxRecDepth 20000 in
theorem gX5_troubleWith_X5_behind : GoodIn wsX5_troubleWith (wsV RX5 67 RX5 yX5_behind wsX5_behind) := goodIn_app (goodIn_of _ (by decide +kernel)) ggX5_troubleWith_X5_behind
set_option maxRecDepth 20000 in
theorem ggX5_troubleWith_X5_leastFrom : GoodIn wsX5_troubleWith wsX5_leastFrom := goodIn_r _ [23, 24, 1, 25, 26, 27, 28, 29] (by decide +kernel) (by decide +kernel)
set_option maxRecDepth 20000 in
theorem gX5_troubleWith_X5_leastFrom : GoodIn wsX5_troubleWith (wsV RX5 58 RX5 yX5_leastFrom wsX5_leastFrom) := goodIn_app (goodIn_of _ (by decide +kernel)) ggX5_troubleWith_X5_leastFrom
theorem dX5_troubleWith_0 : decode cX5_troubleWith 0 = .ok (.iload_n 3, 1) := by decide +kernel
theorem dX5_troubleWith_1 : decode cX5_troubleWith 1 = .ok (.ifCond .lt 8, 3) := by decide +kernel
theorem dX5_troubleWith_4 : decode cX5_troubleWith 4 = .ok (.iload_n 3, 1) := by decide +kernel
theorem dX5_troubleWith_5 : decode cX5_troubleWith 5 = .ok (.iconst 5, 1) := by decide +kernel
theorem dX5_troubleWith_6 : decode cX5_troubleWith 6 = .ok (.if_icmp .le 6, 3) := by decide +kernel
theorem dX5_troubleWith_9 : decode cX5_troubleWith 9 = .ok (.ldc 54, 2) := by decide +kernel
theorem dX5_troubleWith_11 : decode cX5_troubleWith 11 = .ok (.ireturn, 1) := by decide +kernel
theorem dX5_troubleWith_12 : decode cX5_troubleWith 12 = .ok (.aload_n 0, 1) := by decide +kernel
theorem dX5_troubleWith_13 : decode cX5_troubleWith 13 = .ok (.getfield 16, 3) := by decide +kernel
theorem dX5_troubleWith_16 : decode cX5_troubleWith 16 = .ok (.iload_n 3, 1) := by decide +kernel
theorem dX5_troubleWith_17 : decode cX5_troubleWith 17 = .ok (.iaload, 1) := by decide +kernel
theorem dX5_troubleWith_18 : decode cX5_troubleWith 18 = .ok (.aload_n 0, 1) := by decide +kernel
theorem dX5_troubleWith_19 : decode cX5_troubleWith 19 = .ok (.iload_n 1, 1) := by decide +kernel
theorem dX5_troubleWith_20 : decode cX5_troubleWith 20 = .ok (.iconst 1, 1) := by decide +kernel
theorem dX5_troubleWith_21 : decode cX5_troubleWith 21 = .ok (.isub, 1) := by decide +kernel
theorem dX5_troubleWith_22 : decode cX5_troubleWith 22 = .ok (.aload_n 0, 1) := by decide +kernel
theorem dX5_troubleWith_23 : decode cX5_troubleWith 23 = .ok (.iload_n 2, 1) := by decide +kernel
theorem dX5_troubleWith_24 : decode cX5_troubleWith 24 = .ok (.iload_n 3, 1) := by decide +kernel
theorem dX5_troubleWith_25 : decode cX5_troubleWith 25 = .ok (.invokevirtual 67, 3) := by decide +kernel
theorem dX5_troubleWith_28 : decode cX5_troubleWith 28 = .ok (.invokevirtual 58, 3) := by decide +kernel
theorem dX5_troubleWith_31 : decode cX5_troubleWith 31 = .ok (.iadd, 1) := by decide +kernel
theorem dX5_troubleWith_32 : decode cX5_troubleWith 32 = .ok (.ireturn, 1) := by decide +kernel
set_option maxRecDepth 20000 in
theorem ggX5_behind_X7_behindDinner : GoodIn wsX5_behind wsX7_behindDinner := goodIn_r _ [5, 6, 7, 8, 9, 10, 11, 12] (by decide +kernel) (by decide +kernel)
set_option maxRecDepth 20000 in
theorem gX5_behind_X7_behindDinner_n81 : GoodIn wsX5_behind (wsX7_behindDinner) := ggX5_behind_X7_behindDinner
theorem dX5_behind_0 : decode cX5_behind 0 = .ok (.iload_n 1, 1) := by decide +kernel
theorem dX5_behind_1 : decode cX5_behind 1 = .ok (.aload_n 0, 1) := by decide +kernel
theorem dX5_behind_2 : decode cX5_behind 2 = .ok (.getfield 23, 3) := by decide +kernel
theorem dX5_behind_5 : decode cX5_behind 5 = .ok (.aload_n 0, 1) := by decide +kernel
theorem dX5_behind_6 : decode cX5_behind 6 = .ok (.getfield 27, 3) := by decide +kernel
theorem dX5_behind_9 : decode cX5_behind 9 = .ok (.iload_n 2, 1) := by decide +kernel
theorem dX5_behind_10 : decode cX5_behind 10 = .ok (.isub, 1) := by decide +kernel
theorem dX5_behind_11 : decode cX5_behind 11 = .ok (.iload_n 2, 1) := by decide +kernel
theorem dX5_behind_12 : decode cX5_behind 12 = .ok (.invokestatic 81, 3) := by decide +kernel
theorem dX5_behind_15 : decode cX5_behind 15 = .ok (.ireturn, 1) := by decide +kernel
set_option maxRecDepth 20000 in
theorem ggX5_firstChoice_X5_leastFrom : GoodIn wsX5_firstChoice wsX5_leastFrom := goodIn_r _ [11, 12, 13, 31, 32, 33, 34, 35] (by decide +kernel) (by decide +kernel)
set_option maxRecDepth 20000 in
theorem gX5_firstChoice_X5_leastFrom : GoodIn wsX5_firstChoice (wsV RX5 58 RX5 yX5_leastFrom wsX5_leastFrom) := goodIn_app (goodIn_of _ (by decide +kernel)) ggX5_firstChoice_X5_leastFrom
set_option maxRecDepth 20000 in
theorem ggX5_firstChoice_X5_troubleWith : GoodIn wsX5_firstChoice wsX5_troubleWith := goodIn_r _ [17, 13, 18, 19, 20, 21, 10, 22, 23, 1, 24, 25, 26, 27, 28, 5, 29, 30, 4, 6, 7, 8, 9, 11, 12, 31, 32, 33, 34, 35] (by decide +kernel) (by decide +kernel)
set_option maxRecDepth 20000 in
theorem gX5_firstChoice_X5_troubleWith : GoodIn wsX5_firstChoice (wsV RX5 77 RX5 yX5_troubleWith wsX5_troubleWith) := goodIn_app (goodIn_of _ (by decide +kernel)) ggX5_firstChoice_X5_troubleWith
theorem dX5_firstChoice_0 : decode cX5_firstChoice 0 = .ok (.aload_n 0, 1) := by decide +kernel
theorem dX5_firstChoice_1 : decode cX5_firstChoice 1 = .ok (.iload_n 1, 1) := by decide +kernel
theorem dX5_firstChoice_2 : decode cX5_firstChoice 2 = .ok (.iload_n 2, 1) := by decide +kernel
theorem dX5_firstChoice_3 : decode cX5_firstChoice 3 = .ok (.invokevirtual 58, 3) := by decide +kernel
theorem dX5_firstChoice_6 : decode cX5_firstChoice 6 = .ok (.istore_n 3, 1) := by decide +kernel
theorem dX5_firstChoice_7 : decode cX5_firstChoice 7 = .ok (.iconst (-1), 1) := by decide +kernel
theorem dX5_firstChoice_8 : decode cX5_firstChoice 8 = .ok (.istore 4, 2) := by decide +kernel
theorem dX5_firstChoice_10 : decode cX5_firstChoice 10 = .ok (.iconst 0, 1) := by decide +kernel
theorem dX5_firstChoice_11 : decode cX5_firstChoice 11 = .ok (.istore 5, 2) := by decide +kernel
theorem dX5_firstChoice_13 : decode cX5_firstChoice 13 = .ok (.iload 5, 2) := by decide +kernel
theorem dX5_firstChoice_15 : decode cX5_firstChoice 15 = .ok (.aload_n 0, 1) := by decide +kernel
theorem dX5_firstChoice_16 : decode cX5_firstChoice 16 = .ok (.getfield 27, 3) := by decide +kernel
theorem dX5_firstChoice_19 : decode cX5_firstChoice 19 = .ok (.if_icmp .gt 47, 3) := by decide +kernel
theorem dX5_firstChoice_22 : decode cX5_firstChoice 22 = .ok (.aload_n 0, 1) := by decide +kernel
theorem dX5_firstChoice_23 : decode cX5_firstChoice 23 = .ok (.iload_n 1, 1) := by decide +kernel
theorem dX5_firstChoice_24 : decode cX5_firstChoice 24 = .ok (.iload_n 2, 1) := by decide +kernel
theorem dX5_firstChoice_25 : decode cX5_firstChoice 25 = .ok (.iload 5, 2) := by decide +kernel
theorem dX5_firstChoice_27 : decode cX5_firstChoice 27 = .ok (.invokevirtual 77, 3) := by decide +kernel
theorem dX5_firstChoice_30 : decode cX5_firstChoice 30 = .ok (.iload_n 3, 1) := by decide +kernel
theorem dX5_firstChoice_31 : decode cX5_firstChoice 31 = .ok (.if_icmp .ne 29, 3) := by decide +kernel
theorem dX5_firstChoice_34 : decode cX5_firstChoice 34 = .ok (.iload 4, 2) := by decide +kernel
theorem dX5_firstChoice_36 : decode cX5_firstChoice 36 = .ok (.ifCond .lt 20, 3) := by decide +kernel
theorem dX5_firstChoice_39 : decode cX5_firstChoice 39 = .ok (.aload_n 0, 1) := by decide +kernel
theorem dX5_firstChoice_40 : decode cX5_firstChoice 40 = .ok (.getfield 20, 3) := by decide +kernel
theorem dX5_firstChoice_43 : decode cX5_firstChoice 43 = .ok (.iload 5, 2) := by decide +kernel
theorem dX5_firstChoice_45 : decode cX5_firstChoice 45 = .ok (.iaload, 1) := by decide +kernel
theorem dX5_firstChoice_46 : decode cX5_firstChoice 46 = .ok (.aload_n 0, 1) := by decide +kernel
theorem dX5_firstChoice_47 : decode cX5_firstChoice 47 = .ok (.getfield 20, 3) := by decide +kernel
theorem dX5_firstChoice_50 : decode cX5_firstChoice 50 = .ok (.iload 4, 2) := by decide +kernel
theorem dX5_firstChoice_52 : decode cX5_firstChoice 52 = .ok (.iaload, 1) := by decide +kernel
theorem dX5_firstChoice_53 : decode cX5_firstChoice 53 = .ok (.if_icmp .ge 7, 3) := by decide +kernel
theorem dX5_firstChoice_56 : decode cX5_firstChoice 56 = .ok (.iload 5, 2) := by decide +kernel
theorem dX5_firstChoice_58 : decode cX5_firstChoice 58 = .ok (.istore 4, 2) := by decide +kernel
theorem dX5_firstChoice_60 : decode cX5_firstChoice 60 = .ok (.iinc 5 1, 3) := by decide +kernel
theorem dX5_firstChoice_63 : decode cX5_firstChoice 63 = .ok (.goto (-50), 3) := by decide +kernel
theorem dX5_firstChoice_66 : decode cX5_firstChoice 66 = .ok (.iconst 0, 1) := by decide +kernel
theorem dX5_firstChoice_67 : decode cX5_firstChoice 67 = .ok (.iload 4, 2) := by decide +kernel
theorem dX5_firstChoice_69 : decode cX5_firstChoice 69 = .ok (.invokestatic 85, 3) := by decide +kernel
theorem dX5_firstChoice_72 : decode cX5_firstChoice 72 = .ok (.ireturn, 1) := by decide +kernel
set_option maxRecDepth 20000 in
theorem ggX6_init_X4_init : GoodIn wsX6_init wsX4_init := goodIn_r _ [13, 14, 2, 3, 15, 16, 17, 9, 18, 19, 20, 21, 22, 23, 24, 25, 26, 27, 28, 29, 30, 31, 32] (by decide +kernel) (by decide +kernel)
set_option maxRecDepth 20000 in
theorem gX6_init_X4_init_n11 : GoodIn wsX6_init (wsX4_init) := ggX6_init_X4_init
theorem dX6_init_0 : decode cX6_init 0 = .ok (.aload_n 0, 1) := by decide +kernel
theorem dX6_init_1 : decode cX6_init 1 = .ok (.invokespecial 3, 3) := by decide +kernel
theorem dX6_init_4 : decode cX6_init 4 = .ok (.aload_n 0, 1) := by decide +kernel
theorem dX6_init_5 : decode cX6_init 5 = .ok (.new 9, 3) := by decide +kernel
theorem dX6_init_8 : decode cX6_init 8 = .ok (.dup, 1) := by decide +kernel
theorem dX6_init_9 : decode cX6_init 9 = .ok (.invokespecial 11, 3) := by decide +kernel
theorem dX6_init_12 : decode cX6_init 12 = .ok (.putfield 12, 3) := by decide +kernel
theorem dX6_init_15 : decode cX6_init 15 = .ok (.aload_n 0, 1) := by decide +kernel
theorem dX6_init_16 : decode cX6_init 16 = .ok (.iconst 0, 1) := by decide +kernel
theorem dX6_init_17 : decode cX6_init 17 = .ok (.putfield 18, 3) := by decide +kernel
theorem dX6_init_20 : decode cX6_init 20 = .ok (.aload_n 0, 1) := by decide +kernel
theorem dX6_init_21 : decode cX6_init 21 = .ok (.iconst 4, 1) := by decide +kernel
theorem dX6_init_22 : decode cX6_init 22 = .ok (.newarray .int, 2) := by decide +kernel
theorem dX6_init_24 : decode cX6_init 24 = .ok (.putfield 22, 3) := by decide +kernel
theorem dX6_init_27 : decode cX6_init 27 = .ok (.aload_n 0, 1) := by decide +kernel
theorem dX6_init_28 : decode cX6_init 28 = .ok (.iconst 0, 1) := by decide +kernel
theorem dX6_init_29 : decode cX6_init 29 = .ok (.putfield 26, 3) := by decide +kernel
theorem dX6_init_32 : decode cX6_init 32 = .ok (.return_, 1) := by decide +kernel
set_option maxRecDepth 20000 in
theorem ggX6_readAll_X4_clear : GoodIn wsX6_readAll wsX4_clear := goodIn_r _ [8, 9, 10, 11, 12, 91, 92, 93, 94, 95, 96, 97, 98, 99] (by decide +kernel) (by decide +kernel)
set_option maxRecDepth 20000 in
theorem gX6_readAll_X4_clear : GoodIn wsX6_readAll (wsV RX6 29 RX4 yX4_clear wsX4_clear) := goodIn_app (goodIn_of _ (by decide +kernel)) ggX6_readAll_X4_clear
set_option maxRecDepth 20000 in
theorem ggX6_readAll_X6_takes : GoodIn wsX6_readAll wsX6_takes := goodIn_r _ [17, 2, 18, 19, 20, 16, 21, 3, 22, 23, 24, 25, 1, 26, 27, 28, 29, 30, 7, 31, 11, 10, 32, 33, 34, 35, 36, 37, 38, 39, 40, 41, 42, 43, 44, 9, 45, 46, 47, 48, 49, 50, 51, 52, 53, 54, 55, 56, 57, 58, 59, 60, 61, 62, 63, 64, 65, 66, 67, 68, 69, 70, 71, 72, 73, 12, 74, 75, 76, 77, 78, 79, 80, 81, 82, 83, 84, 85, 86, 87, 88, 89, 90, 91, 92, 93, 94, 95, 96, 97, 98, 99] (by decide +kernel) (by decide +kernel)
set_option maxRecDepth 20000 in
theorem gX6_readAll_X6_takes : GoodIn wsX6_readAll (wsV RX6 32 RX6 yX6_takes wsX6_takes) := goodIn_app (goodIn_of _ (by decide +kernel)) ggX6_readAll_X6_takes
theorem dX6_readAll_0 : decode cX6_readAll 0 = .ok (.aload_n 0, 1) := by decide +kernel
theorem dX6_readAll_1 : decode cX6_readAll 1 = .ok (.getfield 12, 3) := by decide +kernel
theorem dX6_readAll_4 : decode cX6_readAll 4 = .ok (.invokevirtual 29, 3) := by decide +kernel
theorem dX6_readAll_7 : decode cX6_readAll 7 = .ok (.aload_n 0, 1) := by decide +kernel
theorem dX6_readAll_8 : decode cX6_readAll 8 = .ok (.iconst 0, 1) := by decide +kernel
theorem dX6_readAll_9 : decode cX6_readAll 9 = .ok (.putfield 18, 3) := by decide +kernel
theorem dX6_readAll_12 : decode cX6_readAll 12 = .ok (.aload_n 0, 1) := by decide +kernel
theorem dX6_readAll_13 : decode cX6_readAll 13 = .ok (.iconst 0, 1) := by decide +kernel
theorem dX6_readAll_14 : decode cX6_readAll 14 = .ok (.putfield 26, 3) := by decide +kernel
theorem dX6_readAll_17 : decode cX6_readAll 17 = .ok (.iconst 0, 1) := by decide +kernel
theorem dX6_readAll_18 : decode cX6_readAll 18 = .ok (.istore_n 3, 1) := by decide +kernel
theorem dX6_readAll_19 : decode cX6_readAll 19 = .ok (.iload_n 3, 1) := by decide +kernel
theorem dX6_readAll_20 : decode cX6_readAll 20 = .ok (.iload_n 2, 1) := by decide +kernel
theorem dX6_readAll_21 : decode cX6_readAll 21 = .ok (.if_icmp .ge 27, 3) := by decide +kernel
theorem dX6_readAll_24 : decode cX6_readAll 24 = .ok (.iload_n 3, 1) := by decide +kernel
theorem dX6_readAll_25 : decode cX6_readAll 25 = .ok (.aload_n 1, 1) := by decide +kernel
theorem dX6_readAll_26 : decode cX6_readAll 26 = .ok (.arraylength, 1) := by decide +kernel
theorem dX6_readAll_27 : decode cX6_readAll 27 = .ok (.if_icmp .ge 21, 3) := by decide +kernel
theorem dX6_readAll_30 : decode cX6_readAll 30 = .ok (.aload_n 0, 1) := by decide +kernel
theorem dX6_readAll_31 : decode cX6_readAll 31 = .ok (.aload_n 1, 1) := by decide +kernel
theorem dX6_readAll_32 : decode cX6_readAll 32 = .ok (.iload_n 3, 1) := by decide +kernel
theorem dX6_readAll_33 : decode cX6_readAll 33 = .ok (.iaload, 1) := by decide +kernel
theorem dX6_readAll_34 : decode cX6_readAll 34 = .ok (.invokevirtual 32, 3) := by decide +kernel
theorem dX6_readAll_37 : decode cX6_readAll 37 = .ok (.ifCond .ne 5, 3) := by decide +kernel
theorem dX6_readAll_40 : decode cX6_readAll 40 = .ok (.iload_n 3, 1) := by decide +kernel
theorem dX6_readAll_41 : decode cX6_readAll 41 = .ok (.ireturn, 1) := by decide +kernel
theorem dX6_readAll_42 : decode cX6_readAll 42 = .ok (.iinc 3 1, 3) := by decide +kernel
theorem dX6_readAll_45 : decode cX6_readAll 45 = .ok (.goto (-26), 3) := by decide +kernel
theorem dX6_readAll_48 : decode cX6_readAll 48 = .ok (.aload_n 0, 1) := by decide +kernel
theorem dX6_readAll_49 : decode cX6_readAll 49 = .ok (.getfield 18, 3) := by decide +kernel
theorem dX6_readAll_52 : decode cX6_readAll 52 = .ok (.iconst 1, 1) := by decide +kernel
theorem dX6_readAll_53 : decode cX6_readAll 53 = .ok (.if_icmp .ne 8, 3) := by decide +kernel
theorem dX6_readAll_56 : decode cX6_readAll 56 = .ok (.bipush (-9), 2) := by decide +kernel
theorem dX6_readAll_58 : decode cX6_readAll 58 = .ok (.goto 4, 3) := by decide +kernel
theorem dX6_readAll_61 : decode cX6_readAll 61 = .ok (.iload_n 2, 1) := by decide +kernel
theorem dX6_readAll_62 : decode cX6_readAll 62 = .ok (.ireturn, 1) := by decide +kernel
theorem dX6_handOver_0 : decode cX6_handOver 0 = .ok (.aload_n 0, 1) := by decide +kernel
theorem dX6_handOver_1 : decode cX6_handOver 1 = .ok (.getfield 12, 3) := by decide +kernel
theorem dX6_handOver_4 : decode cX6_handOver 4 = .ok (.astore_n 2, 1) := by decide +kernel
theorem dX6_handOver_5 : decode cX6_handOver 5 = .ok (.aload_n 0, 1) := by decide +kernel
theorem dX6_handOver_6 : decode cX6_handOver 6 = .ok (.aload_n 1, 1) := by decide +kernel
theorem dX6_handOver_7 : decode cX6_handOver 7 = .ok (.putfield 12, 3) := by decide +kernel
theorem dX6_handOver_10 : decode cX6_handOver 10 = .ok (.aload_n 2, 1) := by decide +kernel
theorem dX6_handOver_11 : decode cX6_handOver 11 = .ok (.areturn, 1) := by decide +kernel
set_option maxRecDepth 20000 in
theorem ggX6_takes_X6_opens : GoodIn wsX6_takes wsX6_opens := goodIn_r _ [6, 1, 7, 79, 80, 81, 82] (by decide +kernel) (by decide +kernel)
set_option maxRecDepth 20000 in
theorem gX6_takes_X6_opens : GoodIn wsX6_takes (wsV RX6 36 RX6 yX6_opens wsX6_opens) := goodIn_app (goodIn_of _ (by decide +kernel)) ggX6_takes_X6_opens
set_option maxRecDepth 20000 in
theorem ggX6_takes_X6_takesName : GoodIn wsX6_takes wsX6_takesName := goodIn_r _ [11, 12, 13, 14, 2, 3, 4, 5, 6, 1, 7, 15, 16, 17, 18, 19, 20, 21, 79, 80, 81, 82, 83, 84, 85, 86, 87, 88, 89, 90, 91] (by decide +kernel) (by decide +kernel)
set_option maxRecDepth 20000 in
theorem gX6_takes_X6_takesName : GoodIn wsX6_takes (wsV RX6 40 RX6 yX6_takesName wsX6_takesName) := goodIn_app (goodIn_of _ (by decide +kernel)) ggX6_takes_X6_takesName
set_option maxRecDepth 20000 in
theorem ggX6_takes_X6_takesOfRoom : GoodIn wsX6_takes wsX6_takesOfRoom := goodIn_r _ [25, 7, 26, 12, 27, 28, 29, 5, 30, 31, 32, 33, 18, 34, 35, 36, 2, 3, 4, 6, 1, 79, 80, 81, 82, 83, 84, 85, 86, 87, 88, 89, 90, 91] (by decide +kernel) (by decide +kernel)
set_option maxRecDepth 20000 in
theorem gX6_takes_X6_takesOfRoom : GoodIn wsX6_takes (wsV RX6 43 RX6 yX6_takesOfRoom wsX6_takesOfRoom) := goodIn_app (goodIn_of _ (by decide +kernel)) ggX6_takes_X6_takesOfRoom
set_option maxRecDepth 20000 in
theorem ggX6_takes_X6_takesOfPerson : GoodIn wsX6_takes wsX6_takesOfPerson := goodIn_r _ [40, 7, 12, 13, 27, 28, 29, 5, 30, 26, 41, 42, 43, 44, 45, 46, 47, 18, 48, 21, 49, 50, 51, 52, 2, 3, 4, 6, 1, 79, 80, 81, 82, 83, 84, 85, 86, 87, 88, 89, 90, 91] (by decide +kernel) (by decide +kernel)
set_option maxRecDepth 20000 in
theorem gX6_takes_X6_takesOfPerson : GoodIn wsX6_takes (wsV RX6 46 RX6 yX6_takesOfPerson wsX6_takesOfPerson) := goodIn_app (goodIn_of _ (by decide +kernel)) ggX6_takes_X6_takesOfPerson
set_option maxRecDepth 20000 in
theorem ggX6_takes_X6_takesOfQuarrel : GoodIn wsX6_takes wsX6_takesOfQuarrel := goodIn_r _ [56, 7, 12, 26, 57, 58, 59, 18, 60, 21, 61, 62, 63, 64, 65, 66, 67, 68, 69, 27, 28, 29, 5, 30, 70, 71, 72, 73, 74, 75, 76, 77, 78, 20, 2, 3, 4, 6, 1, 79, 80, 81, 82, 83, 84, 85, 86, 87, 88, 89, 90, 91] (by decide +kernel) (by decide +kernel)
set_option maxRecDepth 20000 in
theorem gX6_takes_X6_takesOfQuarrel : GoodIn wsX6_takes (wsV RX6 49 RX6 yX6_takesOfQuarrel wsX6_takesOfQuarrel) := goodIn_app (goodIn_of _ (by decide +kernel)) ggX6_takes_X6_takesOfQuarrel
theorem dX6_takes_0 : decode cX6_takes 0 = .ok (.aload_n 0, 1) := by decide +kernel
theorem dX6_takes_1 : decode cX6_takes 1 = .ok (.getfield 18, 3) := by decide +kernel
theorem dX6_takes_4 : decode cX6_takes 4 = .ok (.tableswitch 83 0 4 #[36, 53, 59, 68, 74], 36) := by decide +kernel
theorem dX6_takes_40 : decode cX6_takes 40 = .ok (.aload_n 0, 1) := by decide +kernel
theorem dX6_takes_41 : decode cX6_takes 41 = .ok (.iload_n 1, 1) := by decide +kernel
theorem dX6_takes_42 : decode cX6_takes 42 = .ok (.bipush 65, 2) := by decide +kernel
theorem dX6_takes_44 : decode cX6_takes 44 = .ok (.if_icmp .ne 7, 3) := by decide +kernel
theorem dX6_takes_47 : decode cX6_takes 47 = .ok (.iconst 1, 1) := by decide +kernel
theorem dX6_takes_48 : decode cX6_takes 48 = .ok (.goto 4, 3) := by decide +kernel
theorem dX6_takes_51 : decode cX6_takes 51 = .ok (.iconst 0, 1) := by decide +kernel
theorem dX6_takes_52 : decode cX6_takes 52 = .ok (.iconst 1, 1) := by decide +kernel
theorem dX6_takes_53 : decode cX6_takes 53 = .ok (.invokevirtual 36, 3) := by decide +kernel
theorem dX6_takes_56 : decode cX6_takes 56 = .ok (.ireturn, 1) := by decide +kernel
theorem dX6_takes_57 : decode cX6_takes 57 = .ok (.aload_n 0, 1) := by decide +kernel
theorem dX6_takes_58 : decode cX6_takes 58 = .ok (.iload_n 1, 1) := by decide +kernel
theorem dX6_takes_59 : decode cX6_takes 59 = .ok (.invokevirtual 40, 3) := by decide +kernel
theorem dX6_takes_62 : decode cX6_takes 62 = .ok (.ireturn, 1) := by decide +kernel
theorem dX6_takes_63 : decode cX6_takes 63 = .ok (.aload_n 0, 1) := by decide +kernel
theorem dX6_takes_64 : decode cX6_takes 64 = .ok (.iload_n 1, 1) := by decide +kernel
theorem dX6_takes_65 : decode cX6_takes 65 = .ok (.bipush 48, 2) := by decide +kernel
theorem dX6_takes_67 : decode cX6_takes 67 = .ok (.isub, 1) := by decide +kernel
theorem dX6_takes_68 : decode cX6_takes 68 = .ok (.invokevirtual 43, 3) := by decide +kernel
theorem dX6_takes_71 : decode cX6_takes 71 = .ok (.ireturn, 1) := by decide +kernel
theorem dX6_takes_72 : decode cX6_takes 72 = .ok (.aload_n 0, 1) := by decide +kernel
theorem dX6_takes_73 : decode cX6_takes 73 = .ok (.iload_n 1, 1) := by decide +kernel
theorem dX6_takes_74 : decode cX6_takes 74 = .ok (.invokevirtual 46, 3) := by decide +kernel
theorem dX6_takes_77 : decode cX6_takes 77 = .ok (.ireturn, 1) := by decide +kernel
theorem dX6_takes_78 : decode cX6_takes 78 = .ok (.aload_n 0, 1) := by decide +kernel
theorem dX6_takes_79 : decode cX6_takes 79 = .ok (.iload_n 1, 1) := by decide +kernel
theorem dX6_takes_80 : decode cX6_takes 80 = .ok (.bipush 48, 2) := by decide +kernel
theorem dX6_takes_82 : decode cX6_takes 82 = .ok (.isub, 1) := by decide +kernel
theorem dX6_takes_83 : decode cX6_takes 83 = .ok (.invokevirtual 49, 3) := by decide +kernel
theorem dX6_takes_86 : decode cX6_takes 86 = .ok (.ireturn, 1) := by decide +kernel
theorem dX6_takes_87 : decode cX6_takes 87 = .ok (.iconst 0, 1) := by decide +kernel
theorem dX6_takes_88 : decode cX6_takes 88 = .ok (.ireturn, 1) := by decide +kernel
set_option maxRecDepth 20000 in
theorem ggX6_takesName_X6_opens : GoodIn wsX6_takesName wsX6_opens := goodIn_r _ [8, 9, 10, 18, 19, 20, 21] (by decide +kernel) (by decide +kernel)
set_option maxRecDepth 20000 in
theorem gX6_takesName_X6_opens : GoodIn wsX6_takesName (wsV RX6 36 RX6 yX6_opens wsX6_opens) := goodIn_app (goodIn_of _ (by decide +kernel)) ggX6_takesName_X6_opens
set_option maxRecDepth 20000 in
theorem ggX6_takesName_X4_canQuarrelAtAll : GoodIn wsX6_takesName wsX4_canQuarrelAtAll := goodIn_r _ [15, 16, 17, 22, 23, 24, 25, 26, 27, 28, 29, 30] (by decide +kernel) (by decide +kernel)
set_option maxRecDepth 20000 in
theorem gX6_takesName_X4_canQuarrelAtAll : GoodIn wsX6_takesName (wsV RX6 58 RX4 yX4_canQuarrelAtAll wsX4_canQuarrelAtAll) := goodIn_app (goodIn_of _ (by decide +kernel)) ggX6_takesName_X4_canQuarrelAtAll
theorem dX6_takesName_0 : decode cX6_takesName 0 = .ok (.iload_n 1, 1) := by decide +kernel
theorem dX6_takesName_1 : decode cX6_takesName 1 = .ok (.tableswitch 94 80 82 #[49, 81, 27], 27) := by decide +kernel
theorem dX6_takesName_28 : decode cX6_takesName 28 = .ok (.aload_n 0, 1) := by decide +kernel
theorem dX6_takesName_29 : decode cX6_takesName 29 = .ok (.aload_n 0, 1) := by decide +kernel
theorem dX6_takesName_30 : decode cX6_takesName 30 = .ok (.getfield 12, 3) := by decide +kernel
theorem dX6_takesName_33 : decode cX6_takesName 33 = .ok (.getfield 52, 3) := by decide +kernel
theorem dX6_takesName_36 : decode cX6_takesName 36 = .ok (.iconst 3, 1) := by decide +kernel
theorem dX6_takesName_37 : decode cX6_takesName 37 = .ok (.if_icmp .ge 7, 3) := by decide +kernel
theorem dX6_takesName_40 : decode cX6_takesName 40 = .ok (.iconst 1, 1) := by decide +kernel
theorem dX6_takesName_41 : decode cX6_takesName 41 = .ok (.goto 4, 3) := by decide +kernel
theorem dX6_takesName_44 : decode cX6_takesName 44 = .ok (.iconst 0, 1) := by decide +kernel
theorem dX6_takesName_45 : decode cX6_takesName 45 = .ok (.iconst 2, 1) := by decide +kernel
theorem dX6_takesName_46 : decode cX6_takesName 46 = .ok (.invokevirtual 36, 3) := by decide +kernel
theorem dX6_takesName_49 : decode cX6_takesName 49 = .ok (.ireturn, 1) := by decide +kernel
theorem dX6_takesName_50 : decode cX6_takesName 50 = .ok (.aload_n 0, 1) := by decide +kernel
theorem dX6_takesName_51 : decode cX6_takesName 51 = .ok (.aload_n 0, 1) := by decide +kernel
theorem dX6_takesName_52 : decode cX6_takesName 52 = .ok (.getfield 12, 3) := by decide +kernel
theorem dX6_takesName_55 : decode cX6_takesName 55 = .ok (.getfield 52, 3) := by decide +kernel
theorem dX6_takesName_58 : decode cX6_takesName 58 = .ok (.ifCond .le 18, 3) := by decide +kernel
theorem dX6_takesName_61 : decode cX6_takesName 61 = .ok (.aload_n 0, 1) := by decide +kernel
theorem dX6_takesName_62 : decode cX6_takesName 62 = .ok (.getfield 12, 3) := by decide +kernel
theorem dX6_takesName_65 : decode cX6_takesName 65 = .ok (.getfield 55, 3) := by decide +kernel
theorem dX6_takesName_68 : decode cX6_takesName 68 = .ok (.iconst 5, 1) := by decide +kernel
theorem dX6_takesName_69 : decode cX6_takesName 69 = .ok (.if_icmp .ge 7, 3) := by decide +kernel
theorem dX6_takesName_72 : decode cX6_takesName 72 = .ok (.iconst 1, 1) := by decide +kernel
theorem dX6_takesName_73 : decode cX6_takesName 73 = .ok (.goto 4, 3) := by decide +kernel
theorem dX6_takesName_76 : decode cX6_takesName 76 = .ok (.iconst 0, 1) := by decide +kernel
theorem dX6_takesName_77 : decode cX6_takesName 77 = .ok (.iconst 3, 1) := by decide +kernel
theorem dX6_takesName_78 : decode cX6_takesName 78 = .ok (.invokevirtual 36, 3) := by decide +kernel
theorem dX6_takesName_81 : decode cX6_takesName 81 = .ok (.ireturn, 1) := by decide +kernel
theorem dX6_takesName_82 : decode cX6_takesName 82 = .ok (.aload_n 0, 1) := by decide +kernel
theorem dX6_takesName_83 : decode cX6_takesName 83 = .ok (.aload_n 0, 1) := by decide +kernel
theorem dX6_takesName_84 : decode cX6_takesName 84 = .ok (.getfield 12, 3) := by decide +kernel
theorem dX6_takesName_87 : decode cX6_takesName 87 = .ok (.invokevirtual 58, 3) := by decide +kernel
theorem dX6_takesName_90 : decode cX6_takesName 90 = .ok (.iconst 4, 1) := by decide +kernel
theorem dX6_takesName_91 : decode cX6_takesName 91 = .ok (.invokevirtual 36, 3) := by decide +kernel
theorem dX6_takesName_94 : decode cX6_takesName 94 = .ok (.ireturn, 1) := by decide +kernel
theorem dX6_takesName_95 : decode cX6_takesName 95 = .ok (.iconst 0, 1) := by decide +kernel
theorem dX6_takesName_96 : decode cX6_takesName 96 = .ok (.ireturn, 1) := by decide +kernel
theorem dX6_opens_0 : decode cX6_opens 0 = .ok (.iload_n 1, 1) := by decide +kernel
theorem dX6_opens_1 : decode cX6_opens 1 = .ok (.ifCond .eq 13, 3) := by decide +kernel
theorem dX6_opens_4 : decode cX6_opens 4 = .ok (.aload_n 0, 1) := by decide +kernel
theorem dX6_opens_5 : decode cX6_opens 5 = .ok (.iload_n 2, 1) := by decide +kernel
theorem dX6_opens_6 : decode cX6_opens 6 = .ok (.putfield 18, 3) := by decide +kernel
theorem dX6_opens_9 : decode cX6_opens 9 = .ok (.aload_n 0, 1) := by decide +kernel
theorem dX6_opens_10 : decode cX6_opens 10 = .ok (.iconst 0, 1) := by decide +kernel
theorem dX6_opens_11 : decode cX6_opens 11 = .ok (.putfield 26, 3) := by decide +kernel
theorem dX6_opens_14 : decode cX6_opens 14 = .ok (.iload_n 1, 1) := by decide +kernel
theorem dX6_opens_15 : decode cX6_opens 15 = .ok (.ireturn, 1) := by decide +kernel
set_option maxRecDepth 20000 in
theorem ggX6_takesOfRoom_X6_notes : GoodIn wsX6_takesOfRoom wsX6_notes := goodIn_r _ [8, 1, 2, 21, 22, 23, 24] (by decide +kernel) (by decide +kernel)
set_option maxRecDepth 20000 in
theorem gX6_takesOfRoom_X6_notes : GoodIn wsX6_takesOfRoom (wsV RX6 62 RX6 yX6_notes wsX6_notes) := goodIn_app (goodIn_of _ (by decide +kernel)) ggX6_takesOfRoom_X6_notes
set_option maxRecDepth 20000 in
theorem ggX6_takesOfRoom_X4_addRoom : GoodIn wsX6_takesOfRoom wsX4_addRoom := goodIn_r _ [13, 14, 15, 25, 26, 27, 28, 29, 30, 31, 32, 33] (by decide +kernel) (by decide +kernel)
set_option maxRecDepth 20000 in
theorem gX6_takesOfRoom_X4_addRoom : GoodIn wsX6_takesOfRoom (wsV RX6 66 RX4 yX4_addRoom wsX4_addRoom) := goodIn_app (goodIn_of _ (by decide +kernel)) ggX6_takesOfRoom_X4_addRoom
set_option maxRecDepth 20000 in
theorem ggX6_takesOfRoom_X6_opens : GoodIn wsX6_takesOfRoom wsX6_opens := goodIn_r _ [19, 20, 1, 21, 22, 23, 24] (by decide +kernel) (by decide +kernel)
set_option maxRecDepth 20000 in
theorem gX6_takesOfRoom_X6_opens : GoodIn wsX6_takesOfRoom (wsV RX6 36 RX6 yX6_opens wsX6_opens) := goodIn_app (goodIn_of _ (by decide +kernel)) ggX6_takesOfRoom_X6_opens
theorem dX6_takesOfRoom_0 : decode cX6_takesOfRoom 0 = .ok (.aload_n 0, 1) := by decide +kernel
theorem dX6_takesOfRoom_1 : decode cX6_takesOfRoom 1 = .ok (.getfield 26, 3) := by decide +kernel
theorem dX6_takesOfRoom_4 : decode cX6_takesOfRoom 4 = .ok (.ifCond .ne 11, 3) := by decide +kernel
theorem dX6_takesOfRoom_7 : decode cX6_takesOfRoom 7 = .ok (.aload_n 0, 1) := by decide +kernel
theorem dX6_takesOfRoom_8 : decode cX6_takesOfRoom 8 = .ok (.iload_n 1, 1) := by decide +kernel
theorem dX6_takesOfRoom_9 : decode cX6_takesOfRoom 9 = .ok (.iconst 0, 1) := by decide +kernel
theorem dX6_takesOfRoom_10 : decode cX6_takesOfRoom 10 = .ok (.iconst 3, 1) := by decide +kernel
theorem dX6_takesOfRoom_11 : decode cX6_takesOfRoom 11 = .ok (.invokevirtual 62, 3) := by decide +kernel
theorem dX6_takesOfRoom_14 : decode cX6_takesOfRoom 14 = .ok (.ireturn, 1) := by decide +kernel
theorem dX6_takesOfRoom_15 : decode cX6_takesOfRoom 15 = .ok (.bipush 10, 2) := by decide +kernel
theorem dX6_takesOfRoom_17 : decode cX6_takesOfRoom 17 = .ok (.aload_n 0, 1) := by decide +kernel
theorem dX6_takesOfRoom_18 : decode cX6_takesOfRoom 18 = .ok (.getfield 22, 3) := by decide +kernel
theorem dX6_takesOfRoom_21 : decode cX6_takesOfRoom 21 = .ok (.iconst 0, 1) := by decide +kernel
theorem dX6_takesOfRoom_22 : decode cX6_takesOfRoom 22 = .ok (.iaload, 1) := by decide +kernel
theorem dX6_takesOfRoom_23 : decode cX6_takesOfRoom 23 = .ok (.imul, 1) := by decide +kernel
theorem dX6_takesOfRoom_24 : decode cX6_takesOfRoom 24 = .ok (.iload_n 1, 1) := by decide +kernel
theorem dX6_takesOfRoom_25 : decode cX6_takesOfRoom 25 = .ok (.iadd, 1) := by decide +kernel
theorem dX6_takesOfRoom_26 : decode cX6_takesOfRoom 26 = .ok (.istore_n 2, 1) := by decide +kernel
theorem dX6_takesOfRoom_27 : decode cX6_takesOfRoom 27 = .ok (.iload_n 1, 1) := by decide +kernel
theorem dX6_takesOfRoom_28 : decode cX6_takesOfRoom 28 = .ok (.ifCond .lt 20, 3) := by decide +kernel
theorem dX6_takesOfRoom_31 : decode cX6_takesOfRoom 31 = .ok (.iload_n 1, 1) := by decide +kernel
theorem dX6_takesOfRoom_32 : decode cX6_takesOfRoom 32 = .ok (.bipush 9, 2) := by decide +kernel
theorem dX6_takesOfRoom_34 : decode cX6_takesOfRoom 34 = .ok (.if_icmp .gt 14, 3) := by decide +kernel
theorem dX6_takesOfRoom_37 : decode cX6_takesOfRoom 37 = .ok (.iload_n 2, 1) := by decide +kernel
theorem dX6_takesOfRoom_38 : decode cX6_takesOfRoom 38 = .ok (.iconst 1, 1) := by decide +kernel
theorem dX6_takesOfRoom_39 : decode cX6_takesOfRoom 39 = .ok (.if_icmp .lt 9, 3) := by decide +kernel
theorem dX6_takesOfRoom_42 : decode cX6_takesOfRoom 42 = .ok (.iload_n 2, 1) := by decide +kernel
theorem dX6_takesOfRoom_43 : decode cX6_takesOfRoom 43 = .ok (.bipush 30, 2) := by decide +kernel
theorem dX6_takesOfRoom_45 : decode cX6_takesOfRoom 45 = .ok (.if_icmp .le 5, 3) := by decide +kernel
theorem dX6_takesOfRoom_48 : decode cX6_takesOfRoom 48 = .ok (.iconst 0, 1) := by decide +kernel
theorem dX6_takesOfRoom_49 : decode cX6_takesOfRoom 49 = .ok (.ireturn, 1) := by decide +kernel
theorem dX6_takesOfRoom_50 : decode cX6_takesOfRoom 50 = .ok (.aload_n 0, 1) := by decide +kernel
theorem dX6_takesOfRoom_51 : decode cX6_takesOfRoom 51 = .ok (.getfield 12, 3) := by decide +kernel
theorem dX6_takesOfRoom_54 : decode cX6_takesOfRoom 54 = .ok (.iload_n 2, 1) := by decide +kernel
theorem dX6_takesOfRoom_55 : decode cX6_takesOfRoom 55 = .ok (.invokevirtual 66, 3) := by decide +kernel
theorem dX6_takesOfRoom_58 : decode cX6_takesOfRoom 58 = .ok (.aload_n 0, 1) := by decide +kernel
theorem dX6_takesOfRoom_59 : decode cX6_takesOfRoom 59 = .ok (.iconst 1, 1) := by decide +kernel
theorem dX6_takesOfRoom_60 : decode cX6_takesOfRoom 60 = .ok (.iconst 1, 1) := by decide +kernel
theorem dX6_takesOfRoom_61 : decode cX6_takesOfRoom 61 = .ok (.invokevirtual 36, 3) := by decide +kernel
theorem dX6_takesOfRoom_64 : decode cX6_takesOfRoom 64 = .ok (.ireturn, 1) := by decide +kernel
set_option maxRecDepth 20000 in
theorem ggX6_takesOfPerson_X6_notes : GoodIn wsX6_takesOfPerson wsX6_notes := goodIn_r _ [8, 1, 9, 29, 30, 31, 32] (by decide +kernel) (by decide +kernel)
set_option maxRecDepth 20000 in
theorem gX6_takesOfPerson_X6_notes : GoodIn wsX6_takesOfPerson (wsV RX6 62 RX6 yX6_notes wsX6_notes) := goodIn_app (goodIn_of _ (by decide +kernel)) ggX6_takesOfPerson_X6_notes
set_option maxRecDepth 20000 in
theorem ggX6_takesOfPerson_X6_endsPerson : GoodIn wsX6_takesOfPerson wsX6_endsPerson := goodIn_r _ [13, 2, 9, 4, 5, 6, 7, 8, 1, 14, 15, 16, 17, 18, 19, 20, 21, 22, 23, 24, 25, 26, 27, 28, 29, 30, 31, 32, 33, 34, 35, 36, 37, 38, 39, 40, 41] (by decide +kernel) (by decide +kernel)
set_option maxRecDepth 20000 in
theorem gX6_takesOfPerson_X6_endsPerson : GoodIn wsX6_takesOfPerson (wsV RX6 70 RX6 yX6_endsPerson wsX6_endsPerson) := goodIn_app (goodIn_of _ (by decide +kernel)) ggX6_takesOfPerson_X6_endsPerson
theorem dX6_takesOfPerson_0 : decode cX6_takesOfPerson 0 = .ok (.aload_n 0, 1) := by decide +kernel
theorem dX6_takesOfPerson_1 : decode cX6_takesOfPerson 1 = .ok (.getfield 26, 3) := by decide +kernel
theorem dX6_takesOfPerson_4 : decode cX6_takesOfPerson 4 = .ok (.tableswitch 70 0 2 #[28, 47, 58], 28) := by decide +kernel
theorem dX6_takesOfPerson_32 : decode cX6_takesOfPerson 32 = .ok (.aload_n 0, 1) := by decide +kernel
theorem dX6_takesOfPerson_33 : decode cX6_takesOfPerson 33 = .ok (.iload_n 1, 1) := by decide +kernel
theorem dX6_takesOfPerson_34 : decode cX6_takesOfPerson 34 = .ok (.bipush 48, 2) := by decide +kernel
theorem dX6_takesOfPerson_36 : decode cX6_takesOfPerson 36 = .ok (.isub, 1) := by decide +kernel
theorem dX6_takesOfPerson_37 : decode cX6_takesOfPerson 37 = .ok (.iconst 0, 1) := by decide +kernel
theorem dX6_takesOfPerson_38 : decode cX6_takesOfPerson 38 = .ok (.aload_n 0, 1) := by decide +kernel
theorem dX6_takesOfPerson_39 : decode cX6_takesOfPerson 39 = .ok (.getfield 12, 3) := by decide +kernel
theorem dX6_takesOfPerson_42 : decode cX6_takesOfPerson 42 = .ok (.getfield 52, 3) := by decide +kernel
theorem dX6_takesOfPerson_45 : decode cX6_takesOfPerson 45 = .ok (.iconst 1, 1) := by decide +kernel
theorem dX6_takesOfPerson_46 : decode cX6_takesOfPerson 46 = .ok (.isub, 1) := by decide +kernel
theorem dX6_takesOfPerson_47 : decode cX6_takesOfPerson 47 = .ok (.invokevirtual 62, 3) := by decide +kernel
theorem dX6_takesOfPerson_50 : decode cX6_takesOfPerson 50 = .ok (.ireturn, 1) := by decide +kernel
theorem dX6_takesOfPerson_51 : decode cX6_takesOfPerson 51 = .ok (.aload_n 0, 1) := by decide +kernel
theorem dX6_takesOfPerson_52 : decode cX6_takesOfPerson 52 = .ok (.iload_n 1, 1) := by decide +kernel
theorem dX6_takesOfPerson_53 : decode cX6_takesOfPerson 53 = .ok (.bipush 97, 2) := by decide +kernel
theorem dX6_takesOfPerson_55 : decode cX6_takesOfPerson 55 = .ok (.isub, 1) := by decide +kernel
theorem dX6_takesOfPerson_56 : decode cX6_takesOfPerson 56 = .ok (.iconst 0, 1) := by decide +kernel
theorem dX6_takesOfPerson_57 : decode cX6_takesOfPerson 57 = .ok (.iconst 3, 1) := by decide +kernel
theorem dX6_takesOfPerson_58 : decode cX6_takesOfPerson 58 = .ok (.invokevirtual 62, 3) := by decide +kernel
theorem dX6_takesOfPerson_61 : decode cX6_takesOfPerson 61 = .ok (.ireturn, 1) := by decide +kernel
theorem dX6_takesOfPerson_62 : decode cX6_takesOfPerson 62 = .ok (.aload_n 0, 1) := by decide +kernel
theorem dX6_takesOfPerson_63 : decode cX6_takesOfPerson 63 = .ok (.iload_n 1, 1) := by decide +kernel
theorem dX6_takesOfPerson_64 : decode cX6_takesOfPerson 64 = .ok (.bipush 48, 2) := by decide +kernel
theorem dX6_takesOfPerson_66 : decode cX6_takesOfPerson 66 = .ok (.isub, 1) := by decide +kernel
theorem dX6_takesOfPerson_67 : decode cX6_takesOfPerson 67 = .ok (.iconst 0, 1) := by decide +kernel
theorem dX6_takesOfPerson_68 : decode cX6_takesOfPerson 68 = .ok (.bipush 9, 2) := by decide +kernel
theorem dX6_takesOfPerson_70 : decode cX6_takesOfPerson 70 = .ok (.invokevirtual 62, 3) := by decide +kernel
theorem dX6_takesOfPerson_73 : decode cX6_takesOfPerson 73 = .ok (.ireturn, 1) := by decide +kernel
theorem dX6_takesOfPerson_74 : decode cX6_takesOfPerson 74 = .ok (.aload_n 0, 1) := by decide +kernel
theorem dX6_takesOfPerson_75 : decode cX6_takesOfPerson 75 = .ok (.iload_n 1, 1) := by decide +kernel
theorem dX6_takesOfPerson_76 : decode cX6_takesOfPerson 76 = .ok (.bipush 48, 2) := by decide +kernel
theorem dX6_takesOfPerson_78 : decode cX6_takesOfPerson 78 = .ok (.isub, 1) := by decide +kernel
theorem dX6_takesOfPerson_79 : decode cX6_takesOfPerson 79 = .ok (.invokevirtual 70, 3) := by decide +kernel
theorem dX6_takesOfPerson_82 : decode cX6_takesOfPerson 82 = .ok (.ireturn, 1) := by decide +kernel
set_option maxRecDepth 20000 in
theorem ggX6_endsPerson_X6_notes : GoodIn wsX6_endsPerson wsX6_notes := goodIn_r _ [7, 8, 2, 24, 25, 26, 27] (by decide +kernel) (by decide +kernel)
set_option maxRecDepth 20000 in
theorem gX6_endsPerson_X6_notes : GoodIn wsX6_endsPerson (wsV RX6 62 RX6 yX6_notes wsX6_notes) := goodIn_app (goodIn_of _ (by decide +kernel)) ggX6_endsPerson_X6_notes
set_option maxRecDepth 20000 in
theorem ggX6_endsPerson_X4_addPerson : GoodIn wsX6_endsPerson wsX4_addPerson := goodIn_r _ [13, 14, 15, 16, 17, 18, 28, 29, 30, 31, 32, 33, 34, 35, 36] (by decide +kernel) (by decide +kernel)
set_option maxRecDepth 20000 in
theorem gX6_endsPerson_X4_addPerson : GoodIn wsX6_endsPerson (wsV RX6 73 RX4 yX4_addPerson wsX4_addPerson) := goodIn_app (goodIn_of _ (by decide +kernel)) ggX6_endsPerson_X4_addPerson
set_option maxRecDepth 20000 in
theorem ggX6_endsPerson_X6_opens : GoodIn wsX6_endsPerson wsX6_opens := goodIn_r _ [22, 23, 8, 24, 25, 26, 27] (by decide +kernel) (by decide +kernel)
set_option maxRecDepth 20000 in
theorem gX6_endsPerson_X6_opens : GoodIn wsX6_endsPerson (wsV RX6 36 RX6 yX6_opens wsX6_opens) := goodIn_app (goodIn_of _ (by decide +kernel)) ggX6_endsPerson_X6_opens
theorem dX6_endsPerson_0 : decode cX6_endsPerson 0 = .ok (.aload_n 0, 1) := by decide +kernel
theorem dX6_endsPerson_1 : decode cX6_endsPerson 1 = .ok (.iload_n 1, 1) := by decide +kernel
theorem dX6_endsPerson_2 : decode cX6_endsPerson 2 = .ok (.iconst 0, 1) := by decide +kernel
theorem dX6_endsPerson_3 : decode cX6_endsPerson 3 = .ok (.bipush 9, 2) := by decide +kernel
theorem dX6_endsPerson_5 : decode cX6_endsPerson 5 = .ok (.invokevirtual 62, 3) := by decide +kernel
theorem dX6_endsPerson_8 : decode cX6_endsPerson 8 = .ok (.ifCond .ne 5, 3) := by decide +kernel
theorem dX6_endsPerson_11 : decode cX6_endsPerson 11 = .ok (.iconst 0, 1) := by decide +kernel
theorem dX6_endsPerson_12 : decode cX6_endsPerson 12 = .ok (.ireturn, 1) := by decide +kernel
theorem dX6_endsPerson_13 : decode cX6_endsPerson 13 = .ok (.aload_n 0, 1) := by decide +kernel
theorem dX6_endsPerson_14 : decode cX6_endsPerson 14 = .ok (.getfield 12, 3) := by decide +kernel
theorem dX6_endsPerson_17 : decode cX6_endsPerson 17 = .ok (.aload_n 0, 1) := by decide +kernel
theorem dX6_endsPerson_18 : decode cX6_endsPerson 18 = .ok (.getfield 22, 3) := by decide +kernel
theorem dX6_endsPerson_21 : decode cX6_endsPerson 21 = .ok (.iconst 0, 1) := by decide +kernel
theorem dX6_endsPerson_22 : decode cX6_endsPerson 22 = .ok (.iaload, 1) := by decide +kernel
theorem dX6_endsPerson_23 : decode cX6_endsPerson 23 = .ok (.aload_n 0, 1) := by decide +kernel
theorem dX6_endsPerson_24 : decode cX6_endsPerson 24 = .ok (.getfield 22, 3) := by decide +kernel
theorem dX6_endsPerson_27 : decode cX6_endsPerson 27 = .ok (.iconst 1, 1) := by decide +kernel
theorem dX6_endsPerson_28 : decode cX6_endsPerson 28 = .ok (.iaload, 1) := by decide +kernel
theorem dX6_endsPerson_29 : decode cX6_endsPerson 29 = .ok (.aload_n 0, 1) := by decide +kernel
theorem dX6_endsPerson_30 : decode cX6_endsPerson 30 = .ok (.getfield 22, 3) := by decide +kernel
theorem dX6_endsPerson_33 : decode cX6_endsPerson 33 = .ok (.iconst 2, 1) := by decide +kernel
theorem dX6_endsPerson_34 : decode cX6_endsPerson 34 = .ok (.iaload, 1) := by decide +kernel
theorem dX6_endsPerson_35 : decode cX6_endsPerson 35 = .ok (.aload_n 0, 1) := by decide +kernel
theorem dX6_endsPerson_36 : decode cX6_endsPerson 36 = .ok (.getfield 22, 3) := by decide +kernel
theorem dX6_endsPerson_39 : decode cX6_endsPerson 39 = .ok (.iconst 3, 1) := by decide +kernel
theorem dX6_endsPerson_40 : decode cX6_endsPerson 40 = .ok (.iaload, 1) := by decide +kernel
theorem dX6_endsPerson_41 : decode cX6_endsPerson 41 = .ok (.invokevirtual 73, 3) := by decide +kernel
theorem dX6_endsPerson_44 : decode cX6_endsPerson 44 = .ok (.aload_n 0, 1) := by decide +kernel
theorem dX6_endsPerson_45 : decode cX6_endsPerson 45 = .ok (.iconst 1, 1) := by decide +kernel
theorem dX6_endsPerson_46 : decode cX6_endsPerson 46 = .ok (.iconst 1, 1) := by decide +kernel
theorem dX6_endsPerson_47 : decode cX6_endsPerson 47 = .ok (.invokevirtual 36, 3) := by decide +kernel
theorem dX6_endsPerson_50 : decode cX6_endsPerson 50 = .ok (.ireturn, 1) := by decide +kernel
set_option maxRecDepth 20000 in
theorem ggX6_takesOfQuarrel_X4_canQuarrelWithSome : GoodIn wsX6_takesOfQuarrel wsX4_canQuarrelWithSome := goodIn_r _ [8, 9, 10, 11, 12, 7, 13, 14, 15, 16, 17, 18, 43, 44, 45, 46, 47, 48, 49, 50, 51] (by decide +kernel) (by decide +kernel)
set_option maxRecDepth 20000 in
theorem gX6_takesOfQuarrel_X4_canQuarrelWithSome : GoodIn wsX6_takesOfQuarrel (wsV RX6 77 RX4 yX4_canQuarrelWithSome wsX4_canQuarrelWithSome) := goodIn_app (goodIn_of _ (by decide +kernel)) ggX6_takesOfQuarrel_X4_canQuarrelWithSome
set_option maxRecDepth 20000 in
theorem ggX6_takesOfQuarrel_X6_notes : GoodIn wsX6_takesOfQuarrel wsX6_notes := goodIn_r _ [23, 1, 3, 39, 40, 41, 42] (by decide +kernel) (by decide +kernel)
set_option maxRecDepth 20000 in
theorem gX6_takesOfQuarrel_X6_notes : GoodIn wsX6_takesOfQuarrel (wsV RX6 62 RX6 yX6_notes wsX6_notes) := goodIn_app (goodIn_of _ (by decide +kernel)) ggX6_takesOfQuarrel_X6_notes
set_option maxRecDepth 20000 in
theorem ggX6_takesOfQuarrel_X4_canQuarrel : GoodIn wsX6_takesOfQuarrel wsX4_canQuarrel := goodIn_r _ [13, 14, 15, 16, 17, 7, 18, 9, 43, 44, 45, 46, 47, 48, 49, 50, 51] (by decide +kernel) (by decide +kernel)
set_option maxRecDepth 20000 in
theorem gX6_takesOfQuarrel_X4_canQuarrel : GoodIn wsX6_takesOfQuarrel (wsV RX6 80 RX4 yX4_canQuarrel wsX4_canQuarrel) := goodIn_app (goodIn_of _ (by decide +kernel)) ggX6_takesOfQuarrel_X4_canQuarrel
set_option maxRecDepth 20000 in
theorem ggX6_takesOfQuarrel_X6_endsQuarrel : GoodIn wsX6_takesOfQuarrel wsX6_endsQuarrel := goodIn_r _ [28, 2, 3, 19, 20, 21, 22, 23, 1, 29, 30, 31, 7, 32, 14, 33, 15, 16, 17, 18, 9, 34, 35, 36, 37, 38, 39, 40, 41, 42, 43, 44, 45, 46, 47, 48, 49, 50, 51] (by decide +kernel) (by decide +kernel)
set_option maxRecDepth 20000 in
theorem gX6_takesOfQuarrel_X6_endsQuarrel : GoodIn wsX6_takesOfQuarrel (wsV RX6 84 RX6 yX6_endsQuarrel wsX6_endsQuarrel) := goodIn_app (goodIn_of _ (by decide +kernel)) ggX6_takesOfQuarrel_X6_endsQuarrel
theorem dX6_takesOfQuarrel_0 : decode cX6_takesOfQuarrel 0 = .ok (.aload_n 0, 1) := by decide +kernel
theorem dX6_takesOfQuarrel_1 : decode cX6_takesOfQuarrel 1 = .ok (.getfield 26, 3) := by decide +kernel
theorem dX6_takesOfQuarrel_4 : decode cX6_takesOfQuarrel 4 = .ok (.lookupswitch 88 #[(0, 28), (1, 55)], 28) := by decide +kernel
theorem dX6_takesOfQuarrel_32 : decode cX6_takesOfQuarrel 32 = .ok (.aload_n 0, 1) := by decide +kernel
theorem dX6_takesOfQuarrel_33 : decode cX6_takesOfQuarrel 33 = .ok (.getfield 12, 3) := by decide +kernel
theorem dX6_takesOfQuarrel_36 : decode cX6_takesOfQuarrel 36 = .ok (.iload_n 1, 1) := by decide +kernel
theorem dX6_takesOfQuarrel_37 : decode cX6_takesOfQuarrel 37 = .ok (.invokevirtual 77, 3) := by decide +kernel
theorem dX6_takesOfQuarrel_40 : decode cX6_takesOfQuarrel 40 = .ok (.ifCond .eq 17, 3) := by decide +kernel
theorem dX6_takesOfQuarrel_43 : decode cX6_takesOfQuarrel 43 = .ok (.aload_n 0, 1) := by decide +kernel
theorem dX6_takesOfQuarrel_44 : decode cX6_takesOfQuarrel 44 = .ok (.iload_n 1, 1) := by decide +kernel
theorem dX6_takesOfQuarrel_45 : decode cX6_takesOfQuarrel 45 = .ok (.iconst 0, 1) := by decide +kernel
theorem dX6_takesOfQuarrel_46 : decode cX6_takesOfQuarrel 46 = .ok (.iconst 4, 1) := by decide +kernel
theorem dX6_takesOfQuarrel_47 : decode cX6_takesOfQuarrel 47 = .ok (.invokevirtual 62, 3) := by decide +kernel
theorem dX6_takesOfQuarrel_50 : decode cX6_takesOfQuarrel 50 = .ok (.ifCond .eq 7, 3) := by decide +kernel
theorem dX6_takesOfQuarrel_53 : decode cX6_takesOfQuarrel 53 = .ok (.iconst 1, 1) := by decide +kernel
theorem dX6_takesOfQuarrel_54 : decode cX6_takesOfQuarrel 54 = .ok (.goto 4, 3) := by decide +kernel
theorem dX6_takesOfQuarrel_57 : decode cX6_takesOfQuarrel 57 = .ok (.iconst 0, 1) := by decide +kernel
theorem dX6_takesOfQuarrel_58 : decode cX6_takesOfQuarrel 58 = .ok (.ireturn, 1) := by decide +kernel
theorem dX6_takesOfQuarrel_59 : decode cX6_takesOfQuarrel 59 = .ok (.aload_n 0, 1) := by decide +kernel
theorem dX6_takesOfQuarrel_60 : decode cX6_takesOfQuarrel 60 = .ok (.getfield 12, 3) := by decide +kernel
theorem dX6_takesOfQuarrel_63 : decode cX6_takesOfQuarrel 63 = .ok (.aload_n 0, 1) := by decide +kernel
theorem dX6_takesOfQuarrel_64 : decode cX6_takesOfQuarrel 64 = .ok (.getfield 22, 3) := by decide +kernel
theorem dX6_takesOfQuarrel_67 : decode cX6_takesOfQuarrel 67 = .ok (.iconst 0, 1) := by decide +kernel
theorem dX6_takesOfQuarrel_68 : decode cX6_takesOfQuarrel 68 = .ok (.iaload, 1) := by decide +kernel
theorem dX6_takesOfQuarrel_69 : decode cX6_takesOfQuarrel 69 = .ok (.iload_n 1, 1) := by decide +kernel
theorem dX6_takesOfQuarrel_70 : decode cX6_takesOfQuarrel 70 = .ok (.invokevirtual 80, 3) := by decide +kernel
theorem dX6_takesOfQuarrel_73 : decode cX6_takesOfQuarrel 73 = .ok (.ifCond .eq 17, 3) := by decide +kernel
theorem dX6_takesOfQuarrel_76 : decode cX6_takesOfQuarrel 76 = .ok (.aload_n 0, 1) := by decide +kernel
theorem dX6_takesOfQuarrel_77 : decode cX6_takesOfQuarrel 77 = .ok (.iload_n 1, 1) := by decide +kernel
theorem dX6_takesOfQuarrel_78 : decode cX6_takesOfQuarrel 78 = .ok (.iconst 0, 1) := by decide +kernel
theorem dX6_takesOfQuarrel_79 : decode cX6_takesOfQuarrel 79 = .ok (.iconst 4, 1) := by decide +kernel
theorem dX6_takesOfQuarrel_80 : decode cX6_takesOfQuarrel 80 = .ok (.invokevirtual 62, 3) := by decide +kernel
theorem dX6_takesOfQuarrel_83 : decode cX6_takesOfQuarrel 83 = .ok (.ifCond .eq 7, 3) := by decide +kernel
theorem dX6_takesOfQuarrel_86 : decode cX6_takesOfQuarrel 86 = .ok (.iconst 1, 1) := by decide +kernel
theorem dX6_takesOfQuarrel_87 : decode cX6_takesOfQuarrel 87 = .ok (.goto 4, 3) := by decide +kernel
theorem dX6_takesOfQuarrel_90 : decode cX6_takesOfQuarrel 90 = .ok (.iconst 0, 1) := by decide +kernel
theorem dX6_takesOfQuarrel_91 : decode cX6_takesOfQuarrel 91 = .ok (.ireturn, 1) := by decide +kernel
theorem dX6_takesOfQuarrel_92 : decode cX6_takesOfQuarrel 92 = .ok (.aload_n 0, 1) := by decide +kernel
theorem dX6_takesOfQuarrel_93 : decode cX6_takesOfQuarrel 93 = .ok (.iload_n 1, 1) := by decide +kernel
theorem dX6_takesOfQuarrel_94 : decode cX6_takesOfQuarrel 94 = .ok (.invokevirtual 84, 3) := by decide +kernel
theorem dX6_takesOfQuarrel_97 : decode cX6_takesOfQuarrel 97 = .ok (.ireturn, 1) := by decide +kernel
set_option maxRecDepth 20000 in
theorem ggX6_endsQuarrel_X6_notes : GoodIn wsX6_endsQuarrel wsX6_notes := goodIn_r _ [7, 8, 2, 26, 27, 28, 29] (by decide +kernel) (by decide +kernel)
set_option maxRecDepth 20000 in
theorem gX6_endsQuarrel_X6_notes : GoodIn wsX6_endsQuarrel (wsV RX6 62 RX6 yX6_notes wsX6_notes) := goodIn_app (goodIn_of _ (by decide +kernel)) ggX6_endsQuarrel_X6_notes
set_option maxRecDepth 20000 in
theorem ggX6_endsQuarrel_X4_addQuarrel : GoodIn wsX6_endsQuarrel wsX4_addQuarrel := goodIn_r _ [13, 14, 15, 16, 17, 18, 12, 19, 20, 30, 31, 32, 33, 34, 35, 36, 37, 38] (by decide +kernel) (by decide +kernel)
set_option maxRecDepth 20000 in
theorem gX6_endsQuarrel_X4_addQuarrel : GoodIn wsX6_endsQuarrel (wsV RX6 87 RX4 yX4_addQuarrel wsX4_addQuarrel) := goodIn_app (goodIn_of _ (by decide +kernel)) ggX6_endsQuarrel_X4_addQuarrel
set_option maxRecDepth 20000 in
theorem ggX6_endsQuarrel_X6_opens : GoodIn wsX6_endsQuarrel wsX6_opens := goodIn_r _ [24, 25, 8, 26, 27, 28, 29] (by decide +kernel) (by decide +kernel)
set_option maxRecDepth 20000 in
theorem gX6_endsQuarrel_X6_opens : GoodIn wsX6_endsQuarrel (wsV RX6 36 RX6 yX6_opens wsX6_opens) := goodIn_app (goodIn_of _ (by decide +kernel)) ggX6_endsQuarrel_X6_opens
theorem dX6_endsQuarrel_0 : decode cX6_endsQuarrel 0 = .ok (.aload_n 0, 1) := by decide +kernel
theorem dX6_endsQuarrel_1 : decode cX6_endsQuarrel 1 = .ok (.iload_n 1, 1) := by decide +kernel
theorem dX6_endsQuarrel_2 : decode cX6_endsQuarrel 2 = .ok (.iconst 1, 1) := by decide +kernel
theorem dX6_endsQuarrel_3 : decode cX6_endsQuarrel 3 = .ok (.bipush 9, 2) := by decide +kernel
theorem dX6_endsQuarrel_5 : decode cX6_endsQuarrel 5 = .ok (.invokevirtual 62, 3) := by decide +kernel
theorem dX6_endsQuarrel_8 : decode cX6_endsQuarrel 8 = .ok (.ifCond .ne 5, 3) := by decide +kernel
theorem dX6_endsQuarrel_11 : decode cX6_endsQuarrel 11 = .ok (.iconst 0, 1) := by decide +kernel
theorem dX6_endsQuarrel_12 : decode cX6_endsQuarrel 12 = .ok (.ireturn, 1) := by decide +kernel
theorem dX6_endsQuarrel_13 : decode cX6_endsQuarrel 13 = .ok (.aload_n 0, 1) := by decide +kernel
theorem dX6_endsQuarrel_14 : decode cX6_endsQuarrel 14 = .ok (.getfield 12, 3) := by decide +kernel
theorem dX6_endsQuarrel_17 : decode cX6_endsQuarrel 17 = .ok (.aload_n 0, 1) := by decide +kernel
theorem dX6_endsQuarrel_18 : decode cX6_endsQuarrel 18 = .ok (.getfield 22, 3) := by decide +kernel
theorem dX6_endsQuarrel_21 : decode cX6_endsQuarrel 21 = .ok (.iconst 0, 1) := by decide +kernel
theorem dX6_endsQuarrel_22 : decode cX6_endsQuarrel 22 = .ok (.iaload, 1) := by decide +kernel
theorem dX6_endsQuarrel_23 : decode cX6_endsQuarrel 23 = .ok (.aload_n 0, 1) := by decide +kernel
theorem dX6_endsQuarrel_24 : decode cX6_endsQuarrel 24 = .ok (.getfield 22, 3) := by decide +kernel
theorem dX6_endsQuarrel_27 : decode cX6_endsQuarrel 27 = .ok (.iconst 1, 1) := by decide +kernel
theorem dX6_endsQuarrel_28 : decode cX6_endsQuarrel 28 = .ok (.iaload, 1) := by decide +kernel
theorem dX6_endsQuarrel_29 : decode cX6_endsQuarrel 29 = .ok (.aload_n 0, 1) := by decide +kernel
theorem dX6_endsQuarrel_30 : decode cX6_endsQuarrel 30 = .ok (.getfield 22, 3) := by decide +kernel
theorem dX6_endsQuarrel_33 : decode cX6_endsQuarrel 33 = .ok (.iconst 2, 1) := by decide +kernel
theorem dX6_endsQuarrel_34 : decode cX6_endsQuarrel 34 = .ok (.iaload, 1) := by decide +kernel
theorem dX6_endsQuarrel_35 : decode cX6_endsQuarrel 35 = .ok (.invokevirtual 87, 3) := by decide +kernel
theorem dX6_endsQuarrel_38 : decode cX6_endsQuarrel 38 = .ok (.aload_n 0, 1) := by decide +kernel
theorem dX6_endsQuarrel_39 : decode cX6_endsQuarrel 39 = .ok (.iconst 1, 1) := by decide +kernel
theorem dX6_endsQuarrel_40 : decode cX6_endsQuarrel 40 = .ok (.iconst 1, 1) := by decide +kernel
theorem dX6_endsQuarrel_41 : decode cX6_endsQuarrel 41 = .ok (.invokevirtual 36, 3) := by decide +kernel
theorem dX6_endsQuarrel_44 : decode cX6_endsQuarrel 44 = .ok (.ireturn, 1) := by decide +kernel
theorem dX6_notes_0 : decode cX6_notes 0 = .ok (.iload_n 1, 1) := by decide +kernel
theorem dX6_notes_1 : decode cX6_notes 1 = .ok (.iload_n 2, 1) := by decide +kernel
theorem dX6_notes_2 : decode cX6_notes 2 = .ok (.if_icmp .lt 27, 3) := by decide +kernel
theorem dX6_notes_5 : decode cX6_notes 5 = .ok (.iload_n 1, 1) := by decide +kernel
theorem dX6_notes_6 : decode cX6_notes 6 = .ok (.iload_n 3, 1) := by decide +kernel
theorem dX6_notes_7 : decode cX6_notes 7 = .ok (.if_icmp .gt 22, 3) := by decide +kernel
theorem dX6_notes_10 : decode cX6_notes 10 = .ok (.aload_n 0, 1) := by decide +kernel
theorem dX6_notes_11 : decode cX6_notes 11 = .ok (.getfield 26, 3) := by decide +kernel
theorem dX6_notes_14 : decode cX6_notes 14 = .ok (.ifCond .lt 15, 3) := by decide +kernel
theorem dX6_notes_17 : decode cX6_notes 17 = .ok (.aload_n 0, 1) := by decide +kernel
theorem dX6_notes_18 : decode cX6_notes 18 = .ok (.getfield 26, 3) := by decide +kernel
theorem dX6_notes_21 : decode cX6_notes 21 = .ok (.aload_n 0, 1) := by decide +kernel
theorem dX6_notes_22 : decode cX6_notes 22 = .ok (.getfield 22, 3) := by decide +kernel
theorem dX6_notes_25 : decode cX6_notes 25 = .ok (.arraylength, 1) := by decide +kernel
theorem dX6_notes_26 : decode cX6_notes 26 = .ok (.if_icmp .lt 5, 3) := by decide +kernel
theorem dX6_notes_29 : decode cX6_notes 29 = .ok (.iconst 0, 1) := by decide +kernel
theorem dX6_notes_30 : decode cX6_notes 30 = .ok (.ireturn, 1) := by decide +kernel
theorem dX6_notes_31 : decode cX6_notes 31 = .ok (.aload_n 0, 1) := by decide +kernel
theorem dX6_notes_32 : decode cX6_notes 32 = .ok (.getfield 22, 3) := by decide +kernel
theorem dX6_notes_35 : decode cX6_notes 35 = .ok (.aload_n 0, 1) := by decide +kernel
theorem dX6_notes_36 : decode cX6_notes 36 = .ok (.getfield 26, 3) := by decide +kernel
theorem dX6_notes_39 : decode cX6_notes 39 = .ok (.iload_n 1, 1) := by decide +kernel
theorem dX6_notes_40 : decode cX6_notes 40 = .ok (.iastore, 1) := by decide +kernel
theorem dX6_notes_41 : decode cX6_notes 41 = .ok (.aload_n 0, 1) := by decide +kernel
theorem dX6_notes_42 : decode cX6_notes 42 = .ok (.dup, 1) := by decide +kernel
theorem dX6_notes_43 : decode cX6_notes 43 = .ok (.getfield 26, 3) := by decide +kernel
theorem dX6_notes_46 : decode cX6_notes 46 = .ok (.iconst 1, 1) := by decide +kernel
theorem dX6_notes_47 : decode cX6_notes 47 = .ok (.iadd, 1) := by decide +kernel
theorem dX6_notes_48 : decode cX6_notes 48 = .ok (.putfield 26, 3) := by decide +kernel
theorem dX6_notes_51 : decode cX6_notes 51 = .ok (.iconst 1, 1) := by decide +kernel
theorem dX6_notes_52 : decode cX6_notes 52 = .ok (.ireturn, 1) := by decide +kernel
