set_option maxRecDepth 20000 in
theorem ggX7_init_X6_init : GoodIn wsX7_init wsX6_init := goodIn_r _ [41, 42, 2, 3, 43, 12, 13, 44, 45, 4, 46, 47, 48, 49, 50, 51, 52, 53, 54, 55, 56, 57, 58, 59, 110, 111, 112, 113, 114, 115, 116, 117, 118, 106, 107, 108, 109] (by decide +kernel) (by decide +kernel)
set_option maxRecDepth 20000 in
theorem gX7_init_X6_init_n19 : GoodIn wsX7_init (wsX6_init) := ggX7_init_X6_init
set_option maxRecDepth 20000 in
theorem ggX7_init_X4_init : GoodIn wsX7_init wsX4_init := goodIn_r _ [49, 50, 2, 3, 51, 52, 53, 4, 54, 55, 56, 57, 58, 59, 110, 111, 112, 113, 114, 115, 116, 117, 118] (by decide +kernel) (by decide +kernel)
set_option maxRecDepth 20000 in
theorem gX7_init_X4_init_n26 : GoodIn wsX7_init (wsX4_init) := ggX7_init_X4_init
set_option maxRecDepth 20000 in
theorem ggX7_init_X1_init : GoodIn wsX7_init wsX1_init := goodIn_r _ [61, 62, 2, 3, 4, 63, 119] (by decide +kernel) (by decide +kernel)
set_option maxRecDepth 20000 in
theorem gX7_init_X1_init_n33 : GoodIn wsX7_init (wsX1_init) := ggX7_init_X1_init
set_option maxRecDepth 20000 in
theorem ggX7_init_X0_init : GoodIn wsX7_init wsX0_init := goodIn_r _ [65, 66, 2, 3, 67, 4, 68, 69, 70, 120, 121, 122] (by decide +kernel) (by decide +kernel)
set_option maxRecDepth 20000 in
theorem gX7_init_X0_init_n40 : GoodIn wsX7_init (wsX0_init) := ggX7_init_X0_init
set_option maxRecDepth 20000 in
theorem ggX7_init_X3_init : GoodIn wsX7_init wsX3_init := goodIn_r _ [72, 73, 2, 3, 4, 74, 123] (by decide +kernel) (by decide +kernel)
set_option maxRecDepth 20000 in
theorem gX7_init_X3_init_n56 : GoodIn wsX7_init (wsX3_init) := ggX7_init_X3_init
set_option maxRecDepth 20000 in
theorem ggX7_init_X5_init : GoodIn wsX7_init wsX5_init := goodIn_r _ [76, 77, 2, 3, 78, 4, 79, 80, 81, 82, 83, 124, 125, 126, 127, 128] (by decide +kernel) (by decide +kernel)
set_option maxRecDepth 20000 in
theorem gX7_init_X5_init_n63 : GoodIn wsX7_init (wsX5_init) := ggX7_init_X5_init
set_option maxRecDepth 20000 in
theorem ggX7_init_X2_init : GoodIn wsX7_init wsX2_init := goodIn_r _ [85, 86, 2, 3, 87, 88, 89, 90, 91, 92, 93, 129, 130, 131, 132, 133, 134] (by decide +kernel) (by decide +kernel)
set_option maxRecDepth 20000 in
theorem gX7_init_X2_init_n70 : GoodIn wsX7_init (wsX2_init) := ggX7_init_X2_init
theorem dX7_init_0 : decode cX7_init 0 = .ok (.aload_n 0, 1) := by decide +kernel
theorem dX7_init_1 : decode cX7_init 1 = .ok (.invokespecial 3, 3) := by decide +kernel
theorem dX7_init_4 : decode cX7_init 4 = .ok (.aload_n 0, 1) := by decide +kernel
theorem dX7_init_5 : decode cX7_init 5 = .ok (.bipush 64, 2) := by decide +kernel
theorem dX7_init_7 : decode cX7_init 7 = .ok (.newarray .int, 2) := by decide +kernel
theorem dX7_init_9 : decode cX7_init 9 = .ok (.putfield 9, 3) := by decide +kernel
theorem dX7_init_12 : decode cX7_init 12 = .ok (.aload_n 0, 1) := by decide +kernel
theorem dX7_init_13 : decode cX7_init 13 = .ok (.iconst 0, 1) := by decide +kernel
theorem dX7_init_14 : decode cX7_init 14 = .ok (.putfield 13, 3) := by decide +kernel
theorem dX7_init_17 : decode cX7_init 17 = .ok (.aload_n 0, 1) := by decide +kernel
theorem dX7_init_18 : decode cX7_init 18 = .ok (.new 17, 3) := by decide +kernel
theorem dX7_init_21 : decode cX7_init 21 = .ok (.dup, 1) := by decide +kernel
theorem dX7_init_22 : decode cX7_init 22 = .ok (.invokespecial 19, 3) := by decide +kernel
theorem dX7_init_25 : decode cX7_init 25 = .ok (.putfield 20, 3) := by decide +kernel
theorem dX7_init_28 : decode cX7_init 28 = .ok (.aload_n 0, 1) := by decide +kernel
theorem dX7_init_29 : decode cX7_init 29 = .ok (.new 24, 3) := by decide +kernel
theorem dX7_init_32 : decode cX7_init 32 = .ok (.dup, 1) := by decide +kernel
theorem dX7_init_33 : decode cX7_init 33 = .ok (.invokespecial 26, 3) := by decide +kernel
theorem dX7_init_36 : decode cX7_init 36 = .ok (.putfield 27, 3) := by decide +kernel
theorem dX7_init_39 : decode cX7_init 39 = .ok (.aload_n 0, 1) := by decide +kernel
theorem dX7_init_40 : decode cX7_init 40 = .ok (.new 31, 3) := by decide +kernel
theorem dX7_init_43 : decode cX7_init 43 = .ok (.dup, 1) := by decide +kernel
theorem dX7_init_44 : decode cX7_init 44 = .ok (.invokespecial 33, 3) := by decide +kernel
theorem dX7_init_47 : decode cX7_init 47 = .ok (.putfield 34, 3) := by decide +kernel
theorem dX7_init_50 : decode cX7_init 50 = .ok (.aload_n 0, 1) := by decide +kernel
theorem dX7_init_51 : decode cX7_init 51 = .ok (.new 38, 3) := by decide +kernel
theorem dX7_init_54 : decode cX7_init 54 = .ok (.dup, 1) := by decide +kernel
theorem dX7_init_55 : decode cX7_init 55 = .ok (.invokespecial 40, 3) := by decide +kernel
theorem dX7_init_58 : decode cX7_init 58 = .ok (.putfield 41, 3) := by decide +kernel
theorem dX7_init_61 : decode cX7_init 61 = .ok (.aload_n 0, 1) := by decide +kernel
theorem dX7_init_62 : decode cX7_init 62 = .ok (.iconst 2, 1) := by decide +kernel
theorem dX7_init_63 : decode cX7_init 63 = .ok (.bipush 97, 2) := by decide +kernel
theorem dX7_init_65 : decode cX7_init 65 = .ok (.multianewarray 45 2, 4) := by decide +kernel
theorem dX7_init_69 : decode cX7_init 69 = .ok (.putfield 47, 3) := by decide +kernel
theorem dX7_init_72 : decode cX7_init 72 = .ok (.aload_n 0, 1) := by decide +kernel
theorem dX7_init_73 : decode cX7_init 73 = .ok (.iconst 2, 1) := by decide +kernel
theorem dX7_init_74 : decode cX7_init 74 = .ok (.newarray .boolean, 2) := by decide +kernel
theorem dX7_init_76 : decode cX7_init 76 = .ok (.putfield 50, 3) := by decide +kernel
theorem dX7_init_79 : decode cX7_init 79 = .ok (.aload_n 0, 1) := by decide +kernel
theorem dX7_init_80 : decode cX7_init 80 = .ok (.new 54, 3) := by decide +kernel
theorem dX7_init_83 : decode cX7_init 83 = .ok (.dup, 1) := by decide +kernel
theorem dX7_init_84 : decode cX7_init 84 = .ok (.invokespecial 56, 3) := by decide +kernel
theorem dX7_init_87 : decode cX7_init 87 = .ok (.putfield 57, 3) := by decide +kernel
theorem dX7_init_90 : decode cX7_init 90 = .ok (.aload_n 0, 1) := by decide +kernel
theorem dX7_init_91 : decode cX7_init 91 = .ok (.new 61, 3) := by decide +kernel
theorem dX7_init_94 : decode cX7_init 94 = .ok (.dup, 1) := by decide +kernel
theorem dX7_init_95 : decode cX7_init 95 = .ok (.invokespecial 63, 3) := by decide +kernel
theorem dX7_init_98 : decode cX7_init 98 = .ok (.putfield 64, 3) := by decide +kernel
theorem dX7_init_101 : decode cX7_init 101 = .ok (.aload_n 0, 1) := by decide +kernel
theorem dX7_init_102 : decode cX7_init 102 = .ok (.new 68, 3) := by decide +kernel
theorem dX7_init_105 : decode cX7_init 105 = .ok (.dup, 1) := by decide +kernel
theorem dX7_init_106 : decode cX7_init 106 = .ok (.invokespecial 70, 3) := by decide +kernel
theorem dX7_init_109 : decode cX7_init 109 = .ok (.putfield 71, 3) := by decide +kernel
theorem dX7_init_112 : decode cX7_init 112 = .ok (.aload_n 0, 1) := by decide +kernel
theorem dX7_init_113 : decode cX7_init 113 = .ok (.lconst 0, 1) := by decide +kernel
theorem dX7_init_114 : decode cX7_init 114 = .ok (.putfield 75, 3) := by decide +kernel
theorem dX7_init_117 : decode cX7_init 117 = .ok (.return_, 1) := by decide +kernel
theorem dX7_write_0 : decode cX7_write 0 = .ok (.iload_n 1, 1) := by decide +kernel
theorem dX7_write_1 : decode cX7_write 1 = .ok (.iconst 1, 1) := by decide +kernel
theorem dX7_write_2 : decode cX7_write 2 = .ok (.if_icmp .lt 9, 3) := by decide +kernel
theorem dX7_write_5 : decode cX7_write 5 = .ok (.iload_n 1, 1) := by decide +kernel
theorem dX7_write_6 : decode cX7_write 6 = .ok (.bipush 8, 2) := by decide +kernel
theorem dX7_write_8 : decode cX7_write 8 = .ok (.if_icmp .le 6, 3) := by decide +kernel
theorem dX7_write_11 : decode cX7_write 11 = .ok (.bipush (-2), 2) := by decide +kernel
theorem dX7_write_13 : decode cX7_write 13 = .ok (.ireturn, 1) := by decide +kernel
theorem dX7_write_14 : decode cX7_write 14 = .ok (.aload_n 0, 1) := by decide +kernel
theorem dX7_write_15 : decode cX7_write 15 = .ok (.getfield 13, 3) := by decide +kernel
theorem dX7_write_18 : decode cX7_write 18 = .ok (.iload_n 1, 1) := by decide +kernel
theorem dX7_write_19 : decode cX7_write 19 = .ok (.iadd, 1) := by decide +kernel
theorem dX7_write_20 : decode cX7_write 20 = .ok (.bipush 64, 2) := by decide +kernel
theorem dX7_write_22 : decode cX7_write 22 = .ok (.if_icmp .le 6, 3) := by decide +kernel
theorem dX7_write_25 : decode cX7_write 25 = .ok (.bipush (-4), 2) := by decide +kernel
theorem dX7_write_27 : decode cX7_write 27 = .ok (.ireturn, 1) := by decide +kernel
theorem dX7_write_28 : decode cX7_write 28 = .ok (.iload_n 1, 1) := by decide +kernel
theorem dX7_write_29 : decode cX7_write 29 = .ok (.iconst 1, 1) := by decide +kernel
theorem dX7_write_30 : decode cX7_write 30 = .ok (.isub, 1) := by decide +kernel
theorem dX7_write_31 : decode cX7_write 31 = .ok (.istore 4, 2) := by decide +kernel
theorem dX7_write_33 : decode cX7_write 33 = .ok (.iload 4, 2) := by decide +kernel
theorem dX7_write_35 : decode cX7_write 35 = .ok (.ifCond .lt 40, 3) := by decide +kernel
theorem dX7_write_38 : decode cX7_write 38 = .ok (.aload_n 0, 1) := by decide +kernel
theorem dX7_write_39 : decode cX7_write 39 = .ok (.getfield 9, 3) := by decide +kernel
theorem dX7_write_42 : decode cX7_write 42 = .ok (.aload_n 0, 1) := by decide +kernel
theorem dX7_write_43 : decode cX7_write 43 = .ok (.getfield 13, 3) := by decide +kernel
theorem dX7_write_46 : decode cX7_write 46 = .ok (.lload_n 2, 1) := by decide +kernel
theorem dX7_write_47 : decode cX7_write 47 = .ok (.bipush 8, 2) := by decide +kernel
theorem dX7_write_49 : decode cX7_write 49 = .ok (.iload 4, 2) := by decide +kernel
theorem dX7_write_51 : decode cX7_write 51 = .ok (.imul, 1) := by decide +kernel
theorem dX7_write_52 : decode cX7_write 52 = .ok (.lushr, 1) := by decide +kernel
theorem dX7_write_53 : decode cX7_write 53 = .ok (.l2i, 1) := by decide +kernel
theorem dX7_write_54 : decode cX7_write 54 = .ok (.sipush 255, 3) := by decide +kernel
theorem dX7_write_57 : decode cX7_write 57 = .ok (.iand, 1) := by decide +kernel
theorem dX7_write_58 : decode cX7_write 58 = .ok (.iastore, 1) := by decide +kernel
theorem dX7_write_59 : decode cX7_write 59 = .ok (.aload_n 0, 1) := by decide +kernel
theorem dX7_write_60 : decode cX7_write 60 = .ok (.dup, 1) := by decide +kernel
theorem dX7_write_61 : decode cX7_write 61 = .ok (.getfield 13, 3) := by decide +kernel
theorem dX7_write_64 : decode cX7_write 64 = .ok (.iconst 1, 1) := by decide +kernel
theorem dX7_write_65 : decode cX7_write 65 = .ok (.iadd, 1) := by decide +kernel
theorem dX7_write_66 : decode cX7_write 66 = .ok (.putfield 13, 3) := by decide +kernel
theorem dX7_write_69 : decode cX7_write 69 = .ok (.iinc 4 (-1), 3) := by decide +kernel
theorem dX7_write_72 : decode cX7_write 72 = .ok (.goto (-39), 3) := by decide +kernel
theorem dX7_write_75 : decode cX7_write 75 = .ok (.aload_n 0, 1) := by decide +kernel
theorem dX7_write_76 : decode cX7_write 76 = .ok (.getfield 13, 3) := by decide +kernel
theorem dX7_write_79 : decode cX7_write 79 = .ok (.ireturn, 1) := by decide +kernel
theorem dX7_wipe_0 : decode cX7_wipe 0 = .ok (.aload_n 0, 1) := by decide +kernel
theorem dX7_wipe_1 : decode cX7_wipe 1 = .ok (.getfield 13, 3) := by decide +kernel
theorem dX7_wipe_4 : decode cX7_wipe 4 = .ok (.istore_n 1, 1) := by decide +kernel
theorem dX7_wipe_5 : decode cX7_wipe 5 = .ok (.aload_n 0, 1) := by decide +kernel
theorem dX7_wipe_6 : decode cX7_wipe 6 = .ok (.iconst 0, 1) := by decide +kernel
theorem dX7_wipe_7 : decode cX7_wipe 7 = .ok (.putfield 13, 3) := by decide +kernel
theorem dX7_wipe_10 : decode cX7_wipe 10 = .ok (.iload_n 1, 1) := by decide +kernel
theorem dX7_wipe_11 : decode cX7_wipe 11 = .ok (.ireturn, 1) := by decide +kernel
set_option maxRecDepth 20000 in
theorem ggX7_fault_X6_readAll : GoodIn wsX7_fault wsX6_readAll := goodIn_r _ [8, 9, 10, 11, 12, 13, 14, 15, 16, 17, 18, 19, 20, 21, 22, 23, 7, 24, 25, 26, 27, 28, 29, 30, 31, 32, 33, 34, 35, 36, 37, 38, 39, 40, 41, 42, 43, 44, 45, 46, 47, 48, 49, 50, 51, 52, 53, 54, 55, 56, 57, 58, 59, 60, 61, 62, 63, 64, 65, 66, 67, 68, 69, 70, 71, 72, 73, 74, 75, 76, 77, 78, 79, 80, 81, 82, 83, 84, 85, 86, 87, 88, 89, 90, 91, 92, 93, 106, 107, 108, 109, 110, 111, 112, 113, 114, 115, 116, 117, 118] (by decide +kernel) (by decide +kernel)
set_option maxRecDepth 20000 in
theorem gX7_fault_X6_readAll : GoodIn wsX7_fault (wsV RX7 79 RX6 yX6_readAll wsX6_readAll) := goodIn_app (goodIn_of _ (by decide +kernel)) ggX7_fault_X6_readAll
theorem dX7_fault_0 : decode cX7_fault 0 = .ok (.aload_n 0, 1) := by decide +kernel
theorem dX7_fault_1 : decode cX7_fault 1 = .ok (.getfield 20, 3) := by decide +kernel
theorem dX7_fault_4 : decode cX7_fault 4 = .ok (.aload_n 0, 1) := by decide +kernel
theorem dX7_fault_5 : decode cX7_fault 5 = .ok (.getfield 9, 3) := by decide +kernel
theorem dX7_fault_8 : decode cX7_fault 8 = .ok (.aload_n 0, 1) := by decide +kernel
theorem dX7_fault_9 : decode cX7_fault 9 = .ok (.getfield 13, 3) := by decide +kernel
theorem dX7_fault_12 : decode cX7_fault 12 = .ok (.invokevirtual 79, 3) := by decide +kernel
theorem dX7_fault_15 : decode cX7_fault 15 = .ok (.ireturn, 1) := by decide +kernel
set_option maxRecDepth 20000 in
theorem ggX7_house_X6_readAll : GoodIn wsX7_house wsX6_readAll := goodIn_r _ [14, 15, 16, 17, 18, 19, 20, 21, 22, 23, 24, 25, 26, 27, 28, 29, 13, 30, 31, 32, 33, 34, 35, 36, 37, 38, 39, 40, 41, 42, 43, 44, 45, 46, 47, 48, 49, 50, 51, 52, 53, 54, 55, 56, 57, 58, 59, 60, 61, 62, 63, 64, 65, 66, 67, 68, 69, 70, 71, 72, 73, 74, 75, 76, 77, 78, 79, 80, 81, 82, 83, 84, 85, 86, 87, 88, 89, 90, 91, 92, 93, 94, 95, 96, 97, 98, 99, 137, 138, 139, 140, 128, 129, 130, 131, 132, 133, 134, 135, 136] (by decide +kernel) (by decide +kernel)
set_option maxRecDepth 20000 in
theorem gX7_house_X6_readAll : GoodIn wsX7_house (wsV RX7 79 RX6 yX6_readAll wsX6_readAll) := goodIn_app (goodIn_of _ (by decide +kernel)) ggX7_house_X6_readAll
set_option maxRecDepth 20000 in
theorem ggX7_house_X6_handOver : GoodIn wsX7_house wsX6_handOver := goodIn_r _ [103, 15, 137, 138, 139, 140] (by decide +kernel) (by decide +kernel)
set_option maxRecDepth 20000 in
theorem gX7_house_X6_handOver : GoodIn wsX7_house (wsV RX7 83 RX6 yX6_handOver wsX6_handOver) := goodIn_app (goodIn_of _ (by decide +kernel)) ggX7_house_X6_handOver
set_option maxRecDepth 20000 in
theorem ggX7_house_X1_clear : GoodIn wsX7_house wsX1_clear := goodIn_r _ [108, 109, 141] (by decide +kernel) (by decide +kernel)
set_option maxRecDepth 20000 in
theorem gX7_house_X1_clear : GoodIn wsX7_house (wsV RX7 87 RX1 yX1_clear wsX1_clear) := goodIn_app (goodIn_of _ (by decide +kernel)) ggX7_house_X1_clear
set_option maxRecDepth 20000 in
theorem ggX7_house_X0_clear : GoodIn wsX7_house wsX0_clear := goodIn_r _ [114, 115, 142, 143, 144] (by decide +kernel) (by decide +kernel)
set_option maxRecDepth 20000 in
theorem gX7_house_X0_clear : GoodIn wsX7_house (wsV RX7 90 RX0 yX0_clear wsX0_clear) := goodIn_app (goodIn_of _ (by decide +kernel)) ggX7_house_X0_clear
theorem dX7_house_0 : decode cX7_house 0 = .ok (.aload_n 0, 1) := by decide +kernel
theorem dX7_house_1 : decode cX7_house 1 = .ok (.getfield 20, 3) := by decide +kernel
theorem dX7_house_4 : decode cX7_house 4 = .ok (.aload_n 0, 1) := by decide +kernel
theorem dX7_house_5 : decode cX7_house 5 = .ok (.getfield 9, 3) := by decide +kernel
theorem dX7_house_8 : decode cX7_house 8 = .ok (.aload_n 0, 1) := by decide +kernel
theorem dX7_house_9 : decode cX7_house 9 = .ok (.getfield 13, 3) := by decide +kernel
theorem dX7_house_12 : decode cX7_house 12 = .ok (.invokevirtual 79, 3) := by decide +kernel
theorem dX7_house_15 : decode cX7_house 15 = .ok (.bipush (-9), 2) := by decide +kernel
theorem dX7_house_17 : decode cX7_house 17 = .ok (.if_icmp .eq 6, 3) := by decide +kernel
theorem dX7_house_20 : decode cX7_house 20 = .ok (.bipush (-3), 2) := by decide +kernel
theorem dX7_house_22 : decode cX7_house 22 = .ok (.ireturn, 1) := by decide +kernel
theorem dX7_house_23 : decode cX7_house 23 = .ok (.aload_n 0, 1) := by decide +kernel
theorem dX7_house_24 : decode cX7_house 24 = .ok (.aload_n 0, 1) := by decide +kernel
theorem dX7_house_25 : decode cX7_house 25 = .ok (.getfield 20, 3) := by decide +kernel
theorem dX7_house_28 : decode cX7_house 28 = .ok (.aload_n 0, 1) := by decide +kernel
theorem dX7_house_29 : decode cX7_house 29 = .ok (.getfield 27, 3) := by decide +kernel
theorem dX7_house_32 : decode cX7_house 32 = .ok (.invokevirtual 83, 3) := by decide +kernel
theorem dX7_house_35 : decode cX7_house 35 = .ok (.putfield 27, 3) := by decide +kernel
theorem dX7_house_38 : decode cX7_house 38 = .ok (.aload_n 0, 1) := by decide +kernel
theorem dX7_house_39 : decode cX7_house 39 = .ok (.getfield 34, 3) := by decide +kernel
theorem dX7_house_42 : decode cX7_house 42 = .ok (.invokevirtual 87, 3) := by decide +kernel
theorem dX7_house_45 : decode cX7_house 45 = .ok (.aload_n 0, 1) := by decide +kernel
theorem dX7_house_46 : decode cX7_house 46 = .ok (.getfield 41, 3) := by decide +kernel
theorem dX7_house_49 : decode cX7_house 49 = .ok (.invokevirtual 90, 3) := by decide +kernel
theorem dX7_house_52 : decode cX7_house 52 = .ok (.iconst 0, 1) := by decide +kernel
theorem dX7_house_53 : decode cX7_house 53 = .ok (.istore_n 1, 1) := by decide +kernel
theorem dX7_house_54 : decode cX7_house 54 = .ok (.iload_n 1, 1) := by decide +kernel
theorem dX7_house_55 : decode cX7_house 55 = .ok (.iconst 2, 1) := by decide +kernel
theorem dX7_house_56 : decode cX7_house 56 = .ok (.if_icmp .ge 16, 3) := by decide +kernel
theorem dX7_house_59 : decode cX7_house 59 = .ok (.aload_n 0, 1) := by decide +kernel
theorem dX7_house_60 : decode cX7_house 60 = .ok (.getfield 50, 3) := by decide +kernel
theorem dX7_house_63 : decode cX7_house 63 = .ok (.iload_n 1, 1) := by decide +kernel
theorem dX7_house_64 : decode cX7_house 64 = .ok (.iconst 0, 1) := by decide +kernel
theorem dX7_house_65 : decode cX7_house 65 = .ok (.bastore, 1) := by decide +kernel
theorem dX7_house_66 : decode cX7_house 66 = .ok (.iinc 1 1, 3) := by decide +kernel
theorem dX7_house_69 : decode cX7_house 69 = .ok (.goto (-15), 3) := by decide +kernel
theorem dX7_house_72 : decode cX7_house 72 = .ok (.bipush 10, 2) := by decide +kernel
theorem dX7_house_74 : decode cX7_house 74 = .ok (.aload_n 0, 1) := by decide +kernel
theorem dX7_house_75 : decode cX7_house 75 = .ok (.getfield 27, 3) := by decide +kernel
theorem dX7_house_78 : decode cX7_house 78 = .ok (.getfield 91, 3) := by decide +kernel
theorem dX7_house_81 : decode cX7_house 81 = .ok (.imul, 1) := by decide +kernel
theorem dX7_house_82 : decode cX7_house 82 = .ok (.aload_n 0, 1) := by decide +kernel
theorem dX7_house_83 : decode cX7_house 83 = .ok (.getfield 27, 3) := by decide +kernel
theorem dX7_house_86 : decode cX7_house 86 = .ok (.getfield 94, 3) := by decide +kernel
theorem dX7_house_89 : decode cX7_house 89 = .ok (.iadd, 1) := by decide +kernel
theorem dX7_house_90 : decode cX7_house 90 = .ok (.ireturn, 1) := by decide +kernel
set_option maxRecDepth 20000 in
theorem ggX7_room_X4_hasRoom : GoodIn wsX7_room wsX4_hasRoom := goodIn_r _ [7, 8, 63, 64, 65, 66, 67, 68, 69, 70, 71] (by decide +kernel) (by decide +kernel)
set_option maxRecDepth 20000 in
theorem gX7_room_X4_hasRoom : GoodIn wsX7_room (wsV RX7 97 RX4 yX4_hasRoom wsX4_hasRoom) := goodIn_app (goodIn_of _ (by decide +kernel)) ggX7_room_X4_hasRoom
set_option maxRecDepth 20000 in
theorem ggX7_room_X4_needsOf : GoodIn wsX7_room wsX4_needsOf := goodIn_r _ [12, 13, 14, 4, 5, 6, 7, 8, 63, 64, 65, 66, 67, 68, 69, 70, 71] (by decide +kernel) (by decide +kernel)
set_option maxRecDepth 20000 in
theorem gX7_room_X4_needsOf : GoodIn wsX7_room (wsV RX7 101 RX4 yX4_needsOf wsX4_needsOf) := goodIn_app (goodIn_of _ (by decide +kernel)) ggX7_room_X4_needsOf
set_option maxRecDepth 20000 in
theorem ggX7_room_X1_knotsOf : GoodIn wsX7_room wsX1_knotsOf := goodIn_r _ [19, 20, 21, 22, 18, 23, 72] (by decide +kernel) (by decide +kernel)
set_option maxRecDepth 20000 in
theorem gX7_room_X1_knotsOf : GoodIn wsX7_room (wsV RX7 105 RX1 yX1_knotsOf wsX1_knotsOf) := goodIn_app (goodIn_of _ (by decide +kernel)) ggX7_room_X1_knotsOf
set_option maxRecDepth 20000 in
theorem ggX7_room_X1_stepsOf : GoodIn wsX7_room wsX1_stepsOf := goodIn_r _ [27, 20, 21, 22, 18, 23, 72] (by decide +kernel) (by decide +kernel)
set_option maxRecDepth 20000 in
theorem gX7_room_X1_stepsOf : GoodIn wsX7_room (wsV RX7 108 RX1 yX1_stepsOf wsX1_stepsOf) := goodIn_app (goodIn_of _ (by decide +kernel)) ggX7_room_X1_stepsOf
set_option maxRecDepth 20000 in
theorem ggX7_room_X7_isDone : GoodIn wsX7_room wsX7_isDone := goodIn_r _ [32, 2, 1, 15, 16, 17, 18, 19, 20, 21, 22, 23, 9, 10, 11, 6, 12, 13, 14, 4, 5, 7, 8, 51, 52, 53, 54, 55, 56, 57, 58, 59, 60, 61, 62, 72, 63, 64, 65, 66, 67, 68, 69, 70, 71] (by decide +kernel) (by decide +kernel)
set_option maxRecDepth 20000 in
theorem gX7_room_X7_isDone : GoodIn wsX7_room (wsV RX7 111 RX7 yX7_isDone wsX7_isDone) := goodIn_app (goodIn_of _ (by decide +kernel)) ggX7_room_X7_isDone
set_option maxRecDepth 20000 in
theorem ggX7_room_X1_redOf : GoodIn wsX7_room wsX1_redOf := goodIn_r _ [36, 37, 16, 17, 18, 19, 20, 21, 22, 23, 38, 39, 40, 41, 42, 43, 44, 72] (by decide +kernel) (by decide +kernel)
set_option maxRecDepth 20000 in
theorem gX7_room_X1_redOf : GoodIn wsX7_room (wsV RX7 114 RX1 yX1_redOf wsX1_redOf) := goodIn_app (goodIn_of _ (by decide +kernel)) ggX7_room_X1_redOf
set_option maxRecDepth 20000 in
theorem ggX7_room_X4_membersOf : GoodIn wsX7_room wsX4_membersOf := goodIn_r _ [48, 49, 50, 63, 64, 65, 66, 67, 68, 69, 70, 71] (by decide +kernel) (by decide +kernel)
set_option maxRecDepth 20000 in
theorem gX7_room_X4_membersOf : GoodIn wsX7_room (wsV RX7 117 RX4 yX4_membersOf wsX4_membersOf) := goodIn_app (goodIn_of _ (by decide +kernel)) ggX7_room_X4_membersOf
theorem dX7_room_0 : decode cX7_room 0 = .ok (.aload_n 0, 1) := by decide +kernel
theorem dX7_room_1 : decode cX7_room 1 = .ok (.getfield 27, 3) := by decide +kernel
theorem dX7_room_4 : decode cX7_room 4 = .ok (.iload_n 1, 1) := by decide +kernel
theorem dX7_room_5 : decode cX7_room 5 = .ok (.invokevirtual 97, 3) := by decide +kernel
theorem dX7_room_8 : decode cX7_room 8 = .ok (.ifCond .ne 5, 3) := by decide +kernel
theorem dX7_room_11 : decode cX7_room 11 = .ok (.iconst (-1), 1) := by decide +kernel
theorem dX7_room_12 : decode cX7_room 12 = .ok (.ireturn, 1) := by decide +kernel
theorem dX7_room_13 : decode cX7_room 13 = .ok (.iload_n 2, 1) := by decide +kernel
theorem dX7_room_14 : decode cX7_room 14 = .ok (.tableswitch 97 0 5 #[38, 47, 56, 65, 79, 88], 38) := by decide +kernel
theorem dX7_room_52 : decode cX7_room 52 = .ok (.aload_n 0, 1) := by decide +kernel
theorem dX7_room_53 : decode cX7_room 53 = .ok (.getfield 27, 3) := by decide +kernel
theorem dX7_room_56 : decode cX7_room 56 = .ok (.iload_n 1, 1) := by decide +kernel
theorem dX7_room_57 : decode cX7_room 57 = .ok (.invokevirtual 101, 3) := by decide +kernel
theorem dX7_room_60 : decode cX7_room 60 = .ok (.ireturn, 1) := by decide +kernel
theorem dX7_room_61 : decode cX7_room 61 = .ok (.aload_n 0, 1) := by decide +kernel
theorem dX7_room_62 : decode cX7_room 62 = .ok (.getfield 34, 3) := by decide +kernel
theorem dX7_room_65 : decode cX7_room 65 = .ok (.iload_n 1, 1) := by decide +kernel
theorem dX7_room_66 : decode cX7_room 66 = .ok (.invokevirtual 105, 3) := by decide +kernel
theorem dX7_room_69 : decode cX7_room 69 = .ok (.ireturn, 1) := by decide +kernel
theorem dX7_room_70 : decode cX7_room 70 = .ok (.aload_n 0, 1) := by decide +kernel
theorem dX7_room_71 : decode cX7_room 71 = .ok (.getfield 34, 3) := by decide +kernel
theorem dX7_room_74 : decode cX7_room 74 = .ok (.iload_n 1, 1) := by decide +kernel
theorem dX7_room_75 : decode cX7_room 75 = .ok (.invokevirtual 108, 3) := by decide +kernel
theorem dX7_room_78 : decode cX7_room 78 = .ok (.ireturn, 1) := by decide +kernel
theorem dX7_room_79 : decode cX7_room 79 = .ok (.aload_n 0, 1) := by decide +kernel
theorem dX7_room_80 : decode cX7_room 80 = .ok (.iload_n 1, 1) := by decide +kernel
theorem dX7_room_81 : decode cX7_room 81 = .ok (.invokevirtual 111, 3) := by decide +kernel
theorem dX7_room_84 : decode cX7_room 84 = .ok (.ifCond .eq 7, 3) := by decide +kernel
theorem dX7_room_87 : decode cX7_room 87 = .ok (.iconst 1, 1) := by decide +kernel
theorem dX7_room_88 : decode cX7_room 88 = .ok (.goto 4, 3) := by decide +kernel
theorem dX7_room_91 : decode cX7_room 91 = .ok (.iconst 0, 1) := by decide +kernel
theorem dX7_room_92 : decode cX7_room 92 = .ok (.ireturn, 1) := by decide +kernel
theorem dX7_room_93 : decode cX7_room 93 = .ok (.aload_n 0, 1) := by decide +kernel
theorem dX7_room_94 : decode cX7_room 94 = .ok (.getfield 34, 3) := by decide +kernel
theorem dX7_room_97 : decode cX7_room 97 = .ok (.iload_n 1, 1) := by decide +kernel
theorem dX7_room_98 : decode cX7_room 98 = .ok (.invokevirtual 114, 3) := by decide +kernel
theorem dX7_room_101 : decode cX7_room 101 = .ok (.ireturn, 1) := by decide +kernel
theorem dX7_room_102 : decode cX7_room 102 = .ok (.aload_n 0, 1) := by decide +kernel
theorem dX7_room_103 : decode cX7_room 103 = .ok (.getfield 27, 3) := by decide +kernel
theorem dX7_room_106 : decode cX7_room 106 = .ok (.iload_n 1, 1) := by decide +kernel
theorem dX7_room_107 : decode cX7_room 107 = .ok (.invokevirtual 117, 3) := by decide +kernel
theorem dX7_room_110 : decode cX7_room 110 = .ok (.ireturn, 1) := by decide +kernel
theorem dX7_room_111 : decode cX7_room 111 = .ok (.bipush (-2), 2) := by decide +kernel
theorem dX7_room_113 : decode cX7_room 113 = .ok (.ireturn, 1) := by decide +kernel
set_option maxRecDepth 20000 in
theorem ggX7_person_X4_hasPerson : GoodIn wsX7_person wsX4_hasPerson := goodIn_r _ [11, 12, 45, 46, 47, 48, 49, 50, 51, 52, 53] (by decide +kernel) (by decide +kernel)
set_option maxRecDepth 20000 in
theorem gX7_person_X4_hasPerson : GoodIn wsX7_person (wsV RX7 120 RX4 yX4_hasPerson wsX4_hasPerson) := goodIn_app (goodIn_of _ (by decide +kernel)) ggX7_person_X4_hasPerson
set_option maxRecDepth 20000 in
theorem ggX7_person_X1_knotsBy : GoodIn wsX7_person wsX1_knotsBy := goodIn_r _ [17, 18, 19, 20, 16, 21, 22, 23, 24, 25, 26, 27, 28, 29, 30, 31, 32, 54] (by decide +kernel) (by decide +kernel)
set_option maxRecDepth 20000 in
theorem gX7_person_X1_knotsBy : GoodIn wsX7_person (wsV RX7 135 RX1 yX1_knotsBy wsX1_knotsBy) := goodIn_app (goodIn_of _ (by decide +kernel)) ggX7_person_X1_knotsBy
theorem dX7_person_0 : decode cX7_person 0 = .ok (.aload_n 0, 1) := by decide +kernel
theorem dX7_person_1 : decode cX7_person 1 = .ok (.getfield 27, 3) := by decide +kernel
theorem dX7_person_4 : decode cX7_person 4 = .ok (.iload_n 1, 1) := by decide +kernel
theorem dX7_person_5 : decode cX7_person 5 = .ok (.invokevirtual 120, 3) := by decide +kernel
theorem dX7_person_8 : decode cX7_person 8 = .ok (.ifCond .ne 5, 3) := by decide +kernel
theorem dX7_person_11 : decode cX7_person 11 = .ok (.iconst (-1), 1) := by decide +kernel
theorem dX7_person_12 : decode cX7_person 12 = .ok (.ireturn, 1) := by decide +kernel
theorem dX7_person_13 : decode cX7_person 13 = .ok (.iload_n 2, 1) := by decide +kernel
theorem dX7_person_14 : decode cX7_person 14 = .ok (.tableswitch 92 0 4 #[34, 44, 54, 64, 74], 34) := by decide +kernel
theorem dX7_person_48 : decode cX7_person 48 = .ok (.aload_n 0, 1) := by decide +kernel
theorem dX7_person_49 : decode cX7_person 49 = .ok (.getfield 27, 3) := by decide +kernel
theorem dX7_person_52 : decode cX7_person 52 = .ok (.getfield 123, 3) := by decide +kernel
theorem dX7_person_55 : decode cX7_person 55 = .ok (.iload_n 1, 1) := by decide +kernel
theorem dX7_person_56 : decode cX7_person 56 = .ok (.iaload, 1) := by decide +kernel
theorem dX7_person_57 : decode cX7_person 57 = .ok (.ireturn, 1) := by decide +kernel
theorem dX7_person_58 : decode cX7_person 58 = .ok (.aload_n 0, 1) := by decide +kernel
theorem dX7_person_59 : decode cX7_person 59 = .ok (.getfield 27, 3) := by decide +kernel
theorem dX7_person_62 : decode cX7_person 62 = .ok (.getfield 126, 3) := by decide +kernel
theorem dX7_person_65 : decode cX7_person 65 = .ok (.iload_n 1, 1) := by decide +kernel
theorem dX7_person_66 : decode cX7_person 66 = .ok (.iaload, 1) := by decide +kernel
theorem dX7_person_67 : decode cX7_person 67 = .ok (.ireturn, 1) := by decide +kernel
theorem dX7_person_68 : decode cX7_person 68 = .ok (.aload_n 0, 1) := by decide +kernel
theorem dX7_person_69 : decode cX7_person 69 = .ok (.getfield 27, 3) := by decide +kernel
theorem dX7_person_72 : decode cX7_person 72 = .ok (.getfield 129, 3) := by decide +kernel
theorem dX7_person_75 : decode cX7_person 75 = .ok (.iload_n 1, 1) := by decide +kernel
theorem dX7_person_76 : decode cX7_person 76 = .ok (.iaload, 1) := by decide +kernel
theorem dX7_person_77 : decode cX7_person 77 = .ok (.ireturn, 1) := by decide +kernel
theorem dX7_person_78 : decode cX7_person 78 = .ok (.aload_n 0, 1) := by decide +kernel
theorem dX7_person_79 : decode cX7_person 79 = .ok (.getfield 27, 3) := by decide +kernel
theorem dX7_person_82 : decode cX7_person 82 = .ok (.getfield 132, 3) := by decide +kernel
theorem dX7_person_85 : decode cX7_person 85 = .ok (.iload_n 1, 1) := by decide +kernel
theorem dX7_person_86 : decode cX7_person 86 = .ok (.iaload, 1) := by decide +kernel
theorem dX7_person_87 : decode cX7_person 87 = .ok (.ireturn, 1) := by decide +kernel
theorem dX7_person_88 : decode cX7_person 88 = .ok (.aload_n 0, 1) := by decide +kernel
theorem dX7_person_89 : decode cX7_person 89 = .ok (.getfield 34, 3) := by decide +kernel
theorem dX7_person_92 : decode cX7_person 92 = .ok (.iload_n 1, 1) := by decide +kernel
theorem dX7_person_93 : decode cX7_person 93 = .ok (.aload_n 0, 1) := by decide +kernel
theorem dX7_person_94 : decode cX7_person 94 = .ok (.getfield 27, 3) := by decide +kernel
theorem dX7_person_97 : decode cX7_person 97 = .ok (.getfield 123, 3) := by decide +kernel
theorem dX7_person_100 : decode cX7_person 100 = .ok (.iload_n 1, 1) := by decide +kernel
theorem dX7_person_101 : decode cX7_person 101 = .ok (.iaload, 1) := by decide +kernel
theorem dX7_person_102 : decode cX7_person 102 = .ok (.invokevirtual 135, 3) := by decide +kernel
theorem dX7_person_105 : decode cX7_person 105 = .ok (.ireturn, 1) := by decide +kernel
theorem dX7_person_106 : decode cX7_person 106 = .ok (.bipush (-2), 2) := by decide +kernel
theorem dX7_person_108 : decode cX7_person 108 = .ok (.ireturn, 1) := by decide +kernel
set_option maxRecDepth 20000 in
theorem ggX7_quarrel_X4_hasPerson : GoodIn wsX7_quarrel wsX4_hasPerson := goodIn_r _ [6, 7, 26, 27, 28, 29, 30, 31, 32, 33, 34] (by decide +kernel) (by decide +kernel)
set_option maxRecDepth 20000 in
theorem gX7_quarrel_X4_hasPerson : GoodIn wsX7_quarrel (wsV RX7 120 RX4 yX4_hasPerson wsX4_hasPerson) := goodIn_app (goodIn_of _ (by decide +kernel)) ggX7_quarrel_X4_hasPerson
set_option maxRecDepth 20000 in
theorem ggX7_quarrel_X4_quarrelBetween : GoodIn wsX7_quarrel wsX4_quarrelBetween := goodIn_r _ [11, 12, 13, 3, 4, 5, 6, 7, 26, 27, 28, 29, 30, 31, 32, 33, 34] (by decide +kernel) (by decide +kernel)
set_option maxRecDepth 20000 in
theorem gX7_quarrel_X4_quarrelBetween : GoodIn wsX7_quarrel (wsV RX7 139 RX4 yX4_quarrelBetween wsX4_quarrelBetween) := goodIn_app (goodIn_of _ (by decide +kernel)) ggX7_quarrel_X4_quarrelBetween
theorem dX7_quarrel_0 : decode cX7_quarrel 0 = .ok (.aload_n 0, 1) := by decide +kernel
theorem dX7_quarrel_1 : decode cX7_quarrel 1 = .ok (.getfield 27, 3) := by decide +kernel
theorem dX7_quarrel_4 : decode cX7_quarrel 4 = .ok (.iload_n 1, 1) := by decide +kernel
theorem dX7_quarrel_5 : decode cX7_quarrel 5 = .ok (.invokevirtual 120, 3) := by decide +kernel
theorem dX7_quarrel_8 : decode cX7_quarrel 8 = .ok (.ifCond .eq 14, 3) := by decide +kernel
theorem dX7_quarrel_11 : decode cX7_quarrel 11 = .ok (.aload_n 0, 1) := by decide +kernel
theorem dX7_quarrel_12 : decode cX7_quarrel 12 = .ok (.getfield 27, 3) := by decide +kernel
theorem dX7_quarrel_15 : decode cX7_quarrel 15 = .ok (.iload_n 2, 1) := by decide +kernel
theorem dX7_quarrel_16 : decode cX7_quarrel 16 = .ok (.invokevirtual 120, 3) := by decide +kernel
theorem dX7_quarrel_19 : decode cX7_quarrel 19 = .ok (.ifCond .ne 5, 3) := by decide +kernel
theorem dX7_quarrel_22 : decode cX7_quarrel 22 = .ok (.iconst (-1), 1) := by decide +kernel
theorem dX7_quarrel_23 : decode cX7_quarrel 23 = .ok (.ireturn, 1) := by decide +kernel
theorem dX7_quarrel_24 : decode cX7_quarrel 24 = .ok (.aload_n 0, 1) := by decide +kernel
theorem dX7_quarrel_25 : decode cX7_quarrel 25 = .ok (.getfield 27, 3) := by decide +kernel
theorem dX7_quarrel_28 : decode cX7_quarrel 28 = .ok (.iload_n 1, 1) := by decide +kernel
theorem dX7_quarrel_29 : decode cX7_quarrel 29 = .ok (.iload_n 2, 1) := by decide +kernel
theorem dX7_quarrel_30 : decode cX7_quarrel 30 = .ok (.invokevirtual 139, 3) := by decide +kernel
theorem dX7_quarrel_33 : decode cX7_quarrel 33 = .ok (.ireturn, 1) := by decide +kernel
set_option maxRecDepth 20000 in
theorem ggX7_knot_X4_hasRoom : GoodIn wsX7_knot wsX4_hasRoom := goodIn_r _ [7, 8, 37, 38, 39, 40, 41, 42, 43, 44, 45] (by decide +kernel) (by decide +kernel)
set_option maxRecDepth 20000 in
theorem gX7_knot_X4_hasRoom : GoodIn wsX7_knot (wsV RX7 97 RX4 yX4_hasRoom wsX4_hasRoom) := goodIn_app (goodIn_of _ (by decide +kernel)) ggX7_knot_X4_hasRoom
set_option maxRecDepth 20000 in
theorem ggX7_knot_X1_knotAt : GoodIn wsX7_knot wsX1_knotAt := goodIn_r _ [13, 14, 15, 16, 17, 12, 18, 19, 20, 21, 22, 23, 24, 46] (by decide +kernel) (by decide +kernel)
set_option maxRecDepth 20000 in
theorem gX7_knot_X1_knotAt : GoodIn wsX7_knot (wsV RX7 142 RX1 yX1_knotAt wsX1_knotAt) := goodIn_app (goodIn_of _ (by decide +kernel)) ggX7_knot_X1_knotAt
theorem dX7_knot_0 : decode cX7_knot 0 = .ok (.aload_n 0, 1) := by decide +kernel
theorem dX7_knot_1 : decode cX7_knot 1 = .ok (.getfield 27, 3) := by decide +kernel
theorem dX7_knot_4 : decode cX7_knot 4 = .ok (.iload_n 1, 1) := by decide +kernel
theorem dX7_knot_5 : decode cX7_knot 5 = .ok (.invokevirtual 97, 3) := by decide +kernel
theorem dX7_knot_8 : decode cX7_knot 8 = .ok (.ifCond .ne 5, 3) := by decide +kernel
theorem dX7_knot_11 : decode cX7_knot 11 = .ok (.iconst (-1), 1) := by decide +kernel
theorem dX7_knot_12 : decode cX7_knot 12 = .ok (.ireturn, 1) := by decide +kernel
theorem dX7_knot_13 : decode cX7_knot 13 = .ok (.aload_n 0, 1) := by decide +kernel
theorem dX7_knot_14 : decode cX7_knot 14 = .ok (.getfield 34, 3) := by decide +kernel
theorem dX7_knot_17 : decode cX7_knot 17 = .ok (.iload_n 1, 1) := by decide +kernel
theorem dX7_knot_18 : decode cX7_knot 18 = .ok (.iload_n 2, 1) := by decide +kernel
theorem dX7_knot_19 : decode cX7_knot 19 = .ok (.invokevirtual 142, 3) := by decide +kernel
theorem dX7_knot_22 : decode cX7_knot 22 = .ok (.ireturn, 1) := by decide +kernel
set_option maxRecDepth 20000 in
theorem ggX7_dinner_X4_hasSet : GoodIn wsX7_dinner wsX4_hasSet := goodIn_r _ [8, 9, 10, 11, 7, 12, 13, 101, 102, 103, 104, 105, 106, 107, 108, 109] (by decide +kernel) (by decide +kernel)
set_option maxRecDepth 20000 in
theorem gX7_dinner_X4_hasSet : GoodIn wsX7_dinner (wsV RX7 145 RX4 yX4_hasSet wsX4_hasSet) := goodIn_app (goodIn_of _ (by decide +kernel)) ggX7_dinner_X4_hasSet
set_option maxRecDepth 20000 in
theorem ggX7_dinner_X0_remember : GoodIn wsX7_dinner wsX0_remember := goodIn_r _ [18, 19, 20, 21, 22, 23, 24, 25, 26, 27, 28, 29, 30, 31, 32, 33, 34, 35, 110, 111, 112, 113] (by decide +kernel) (by decide +kernel)
set_option maxRecDepth 20000 in
theorem gX7_dinner_X0_remember : GoodIn wsX7_dinner (wsV RX7 148 RX0 yX0_remember wsX0_remember) := goodIn_app (goodIn_of _ (by decide +kernel)) ggX7_dinner_X0_remember
set_option maxRecDepth 20000 in
theorem ggX7_dinner_X1_countDinner : GoodIn wsX7_dinner wsX1_countDinner := goodIn_r _ [39, 31, 113] (by decide +kernel) (by decide +kernel)
set_option maxRecDepth 20000 in
theorem gX7_dinner_X1_countDinner : GoodIn wsX7_dinner (wsV RX7 152 RX1 yX1_countDinner wsX1_countDinner) := goodIn_app (goodIn_of _ (by decide +kernel)) ggX7_dinner_X1_countDinner
set_option maxRecDepth 20000 in
theorem ggX7_dinner_X7_weaveAll : GoodIn wsX7_dinner wsX7_weaveAll := goodIn_r _ [44, 1, 45, 46, 3, 47, 48, 49, 43, 50, 51, 52, 53, 29, 54, 31, 55, 56, 57, 58, 59, 60, 7, 61, 62, 63, 64, 65, 66, 67, 68, 69, 70, 71, 72, 73, 74, 75, 89, 90, 91, 92, 93, 94, 95, 96, 97, 98, 99, 100, 101, 102, 103, 104, 105, 106, 107, 108, 109, 113] (by decide +kernel) (by decide +kernel)
set_option maxRecDepth 20000 in
theorem gX7_dinner_X7_weaveAll : GoodIn wsX7_dinner (wsV RX7 155 RX7 yX7_weaveAll wsX7_weaveAll) := goodIn_app (goodIn_of _ (by decide +kernel)) ggX7_dinner_X7_weaveAll
set_option maxRecDepth 20000 in
theorem ggX7_dinner_X4_everyone : GoodIn wsX7_dinner wsX4_everyone := goodIn_r _ [12, 13, 101, 102, 103, 104, 105, 106, 107, 108, 109] (by decide +kernel) (by decide +kernel)
set_option maxRecDepth 20000 in
theorem gX7_dinner_X4_everyone : GoodIn wsX7_dinner (wsV RX7 158 RX4 yX4_everyone wsX4_everyone) := goodIn_app (goodIn_of _ (by decide +kernel)) ggX7_dinner_X4_everyone
set_option maxRecDepth 20000 in
theorem ggX7_dinner_X7_stepAll : GoodIn wsX7_dinner wsX7_stepAll := goodIn_r _ [80, 1, 45, 3, 46, 81, 82, 83, 29, 84, 31, 55, 56, 57, 85, 86, 87, 88, 32, 33, 34, 35, 72, 52, 53, 54, 73, 74, 75, 89, 90, 91, 92, 93, 94, 95, 96, 97, 98, 99, 100, 101, 102, 103, 104, 105, 106, 107, 108, 109, 113] (by decide +kernel) (by decide +kernel)
set_option maxRecDepth 20000 in
theorem gX7_dinner_X7_stepAll : GoodIn wsX7_dinner (wsV RX7 162 RX7 yX7_stepAll wsX7_stepAll) := goodIn_app (goodIn_of _ (by decide +kernel)) ggX7_dinner_X7_stepAll
theorem dX7_dinner_0 : decode cX7_dinner 0 = .ok (.aload_n 0, 1) := by decide +kernel
theorem dX7_dinner_1 : decode cX7_dinner 1 = .ok (.getfield 27, 3) := by decide +kernel
theorem dX7_dinner_4 : decode cX7_dinner 4 = .ok (.iload_n 1, 1) := by decide +kernel
theorem dX7_dinner_5 : decode cX7_dinner 5 = .ok (.invokevirtual 145, 3) := by decide +kernel
theorem dX7_dinner_8 : decode cX7_dinner 8 = .ok (.ifCond .eq 11, 3) := by decide +kernel
theorem dX7_dinner_11 : decode cX7_dinner 11 = .ok (.iload_n 2, 1) := by decide +kernel
theorem dX7_dinner_12 : decode cX7_dinner 12 = .ok (.iload_n 1, 1) := by decide +kernel
theorem dX7_dinner_13 : decode cX7_dinner 13 = .ok (.iconst (-1), 1) := by decide +kernel
theorem dX7_dinner_14 : decode cX7_dinner 14 = .ok (.ixor, 1) := by decide +kernel
theorem dX7_dinner_15 : decode cX7_dinner 15 = .ok (.iand, 1) := by decide +kernel
theorem dX7_dinner_16 : decode cX7_dinner 16 = .ok (.ifCond .eq 6, 3) := by decide +kernel
theorem dX7_dinner_19 : decode cX7_dinner 19 = .ok (.bipush (-2), 2) := by decide +kernel
theorem dX7_dinner_21 : decode cX7_dinner 21 = .ok (.ireturn, 1) := by decide +kernel
theorem dX7_dinner_22 : decode cX7_dinner 22 = .ok (.aload_n 0, 1) := by decide +kernel
theorem dX7_dinner_23 : decode cX7_dinner 23 = .ok (.getfield 41, 3) := by decide +kernel
theorem dX7_dinner_26 : decode cX7_dinner 26 = .ok (.aload_n 0, 1) := by decide +kernel
theorem dX7_dinner_27 : decode cX7_dinner 27 = .ok (.getfield 34, 3) := by decide +kernel
theorem dX7_dinner_30 : decode cX7_dinner 30 = .ok (.invokevirtual 148, 3) := by decide +kernel
theorem dX7_dinner_33 : decode cX7_dinner 33 = .ok (.aload_n 0, 1) := by decide +kernel
theorem dX7_dinner_34 : decode cX7_dinner 34 = .ok (.getfield 34, 3) := by decide +kernel
theorem dX7_dinner_37 : decode cX7_dinner 37 = .ok (.invokevirtual 152, 3) := by decide +kernel
theorem dX7_dinner_40 : decode cX7_dinner 40 = .ok (.aload_n 0, 1) := by decide +kernel
theorem dX7_dinner_41 : decode cX7_dinner 41 = .ok (.iload_n 1, 1) := by decide +kernel
theorem dX7_dinner_42 : decode cX7_dinner 42 = .ok (.iload_n 2, 1) := by decide +kernel
theorem dX7_dinner_43 : decode cX7_dinner 43 = .ok (.invokevirtual 155, 3) := by decide +kernel
theorem dX7_dinner_46 : decode cX7_dinner 46 = .ok (.istore_n 3, 1) := by decide +kernel
theorem dX7_dinner_47 : decode cX7_dinner 47 = .ok (.aload_n 0, 1) := by decide +kernel
theorem dX7_dinner_48 : decode cX7_dinner 48 = .ok (.aload_n 0, 1) := by decide +kernel
theorem dX7_dinner_49 : decode cX7_dinner 49 = .ok (.getfield 27, 3) := by decide +kernel
theorem dX7_dinner_52 : decode cX7_dinner 52 = .ok (.invokevirtual 158, 3) := by decide +kernel
theorem dX7_dinner_55 : decode cX7_dinner 55 = .ok (.iload_n 1, 1) := by decide +kernel
theorem dX7_dinner_56 : decode cX7_dinner 56 = .ok (.iconst (-1), 1) := by decide +kernel
theorem dX7_dinner_57 : decode cX7_dinner 57 = .ok (.ixor, 1) := by decide +kernel
theorem dX7_dinner_58 : decode cX7_dinner 58 = .ok (.iand, 1) := by decide +kernel
theorem dX7_dinner_59 : decode cX7_dinner 59 = .ok (.invokevirtual 162, 3) := by decide +kernel
theorem dX7_dinner_62 : decode cX7_dinner 62 = .ok (.iload_n 3, 1) := by decide +kernel
theorem dX7_dinner_63 : decode cX7_dinner 63 = .ok (.ireturn, 1) := by decide +kernel
set_option maxRecDepth 20000 in
theorem ggX7_moth_X4_hasRoom : GoodIn wsX7_moth wsX4_hasRoom := goodIn_r _ [8, 9, 63, 64, 65, 66, 67, 68, 69, 70, 71] (by decide +kernel) (by decide +kernel)
set_option maxRecDepth 20000 in
theorem gX7_moth_X4_hasRoom : GoodIn wsX7_moth (wsV RX7 97 RX4 yX4_hasRoom wsX4_hasRoom) := goodIn_app (goodIn_of _ (by decide +kernel)) ggX7_moth_X4_hasRoom
set_option maxRecDepth 20000 in
theorem ggX7_moth_X1_knotsOf : GoodIn wsX7_moth wsX1_knotsOf := goodIn_r _ [14, 15, 16, 17, 13, 18, 72] (by decide +kernel) (by decide +kernel)
set_option maxRecDepth 20000 in
theorem gX7_moth_X1_knotsOf : GoodIn wsX7_moth (wsV RX7 105 RX1 yX1_knotsOf wsX1_knotsOf) := goodIn_app (goodIn_of _ (by decide +kernel)) ggX7_moth_X1_knotsOf
set_option maxRecDepth 20000 in
theorem ggX7_moth_X0_remember : GoodIn wsX7_moth wsX0_remember := goodIn_r _ [23, 24, 25, 26, 27, 28, 29, 30, 31, 32, 33, 13, 34, 15, 35, 36, 37, 38, 73, 74, 75, 72] (by decide +kernel) (by decide +kernel)
set_option maxRecDepth 20000 in
theorem gX7_moth_X0_remember : GoodIn wsX7_moth (wsV RX7 148 RX0 yX0_remember wsX0_remember) := goodIn_app (goodIn_of _ (by decide +kernel)) ggX7_moth_X0_remember
set_option maxRecDepth 20000 in
theorem ggX7_moth_X1_knotAt : GoodIn wsX7_moth wsX1_knotAt := goodIn_r _ [42, 15, 43, 11, 12, 13, 14, 16, 17, 18, 44, 45, 46, 72] (by decide +kernel) (by decide +kernel)
set_option maxRecDepth 20000 in
theorem gX7_moth_X1_knotAt : GoodIn wsX7_moth (wsV RX7 142 RX1 yX1_knotAt wsX1_knotAt) := goodIn_app (goodIn_of _ (by decide +kernel)) ggX7_moth_X1_knotAt
set_option maxRecDepth 20000 in
theorem ggX7_moth_X1_loseLast : GoodIn wsX7_moth wsX1_loseLast := goodIn_r _ [50, 15, 43, 11, 12, 13, 14, 16, 17, 18, 72] (by decide +kernel) (by decide +kernel)
set_option maxRecDepth 20000 in
theorem gX7_moth_X1_loseLast : GoodIn wsX7_moth (wsV RX7 166 RX1 yX1_loseLast wsX1_loseLast) := goodIn_app (goodIn_of _ (by decide +kernel)) ggX7_moth_X1_loseLast
theorem dX7_moth_0 : decode cX7_moth 0 = .ok (.aload_n 0, 1) := by decide +kernel
theorem dX7_moth_1 : decode cX7_moth 1 = .ok (.getfield 27, 3) := by decide +kernel
theorem dX7_moth_4 : decode cX7_moth 4 = .ok (.iload_n 1, 1) := by decide +kernel
theorem dX7_moth_5 : decode cX7_moth 5 = .ok (.invokevirtual 97, 3) := by decide +kernel
theorem dX7_moth_8 : decode cX7_moth 8 = .ok (.ifCond .ne 5, 3) := by decide +kernel
theorem dX7_moth_11 : decode cX7_moth 11 = .ok (.iconst (-1), 1) := by decide +kernel
theorem dX7_moth_12 : decode cX7_moth 12 = .ok (.ireturn, 1) := by decide +kernel
theorem dX7_moth_13 : decode cX7_moth 13 = .ok (.aload_n 0, 1) := by decide +kernel
theorem dX7_moth_14 : decode cX7_moth 14 = .ok (.getfield 34, 3) := by decide +kernel
theorem dX7_moth_17 : decode cX7_moth 17 = .ok (.iload_n 1, 1) := by decide +kernel
theorem dX7_moth_18 : decode cX7_moth 18 = .ok (.invokevirtual 105, 3) := by decide +kernel
theorem dX7_moth_21 : decode cX7_moth 21 = .ok (.istore_n 2, 1) := by decide +kernel
theorem dX7_moth_22 : decode cX7_moth 22 = .ok (.iload_n 2, 1) := by decide +kernel
theorem dX7_moth_23 : decode cX7_moth 23 = .ok (.ifCond .ne 6, 3) := by decide +kernel
theorem dX7_moth_26 : decode cX7_moth 26 = .ok (.bipush (-3), 2) := by decide +kernel
theorem dX7_moth_28 : decode cX7_moth 28 = .ok (.ireturn, 1) := by decide +kernel
theorem dX7_moth_29 : decode cX7_moth 29 = .ok (.aload_n 0, 1) := by decide +kernel
theorem dX7_moth_30 : decode cX7_moth 30 = .ok (.getfield 41, 3) := by decide +kernel
theorem dX7_moth_33 : decode cX7_moth 33 = .ok (.aload_n 0, 1) := by decide +kernel
theorem dX7_moth_34 : decode cX7_moth 34 = .ok (.getfield 34, 3) := by decide +kernel
theorem dX7_moth_37 : decode cX7_moth 37 = .ok (.invokevirtual 148, 3) := by decide +kernel
theorem dX7_moth_40 : decode cX7_moth 40 = .ok (.aload_n 0, 1) := by decide +kernel
theorem dX7_moth_41 : decode cX7_moth 41 = .ok (.getfield 34, 3) := by decide +kernel
theorem dX7_moth_44 : decode cX7_moth 44 = .ok (.iload_n 1, 1) := by decide +kernel
theorem dX7_moth_45 : decode cX7_moth 45 = .ok (.iload_n 2, 1) := by decide +kernel
theorem dX7_moth_46 : decode cX7_moth 46 = .ok (.iconst 1, 1) := by decide +kernel
theorem dX7_moth_47 : decode cX7_moth 47 = .ok (.isub, 1) := by decide +kernel
theorem dX7_moth_48 : decode cX7_moth 48 = .ok (.invokevirtual 142, 3) := by decide +kernel
theorem dX7_moth_51 : decode cX7_moth 51 = .ok (.istore_n 3, 1) := by decide +kernel
theorem dX7_moth_52 : decode cX7_moth 52 = .ok (.aload_n 0, 1) := by decide +kernel
theorem dX7_moth_53 : decode cX7_moth 53 = .ok (.getfield 34, 3) := by decide +kernel
theorem dX7_moth_56 : decode cX7_moth 56 = .ok (.iload_n 1, 1) := by decide +kernel
theorem dX7_moth_57 : decode cX7_moth 57 = .ok (.invokevirtual 166, 3) := by decide +kernel
theorem dX7_moth_60 : decode cX7_moth 60 = .ok (.iload_n 3, 1) := by decide +kernel
theorem dX7_moth_61 : decode cX7_moth 61 = .ok (.ireturn, 1) := by decide +kernel
set_option maxRecDepth 20000 in
theorem ggX7_mend_X4_hasRoom : GoodIn wsX7_mend wsX4_hasRoom := goodIn_r _ [8, 9, 55, 56, 57, 58, 59, 60, 61, 62, 63] (by decide +kernel) (by decide +kernel)
set_option maxRecDepth 20000 in
theorem gX7_mend_X4_hasRoom : GoodIn wsX7_mend (wsV RX7 97 RX4 yX4_hasRoom wsX4_hasRoom) := goodIn_app (goodIn_of _ (by decide +kernel)) ggX7_mend_X4_hasRoom
set_option maxRecDepth 20000 in
theorem ggX7_mend_X1_stepsOf : GoodIn wsX7_mend wsX1_stepsOf := goodIn_r _ [14, 15, 16, 17, 13, 18, 64] (by decide +kernel) (by decide +kernel)
set_option maxRecDepth 20000 in
theorem gX7_mend_X1_stepsOf : GoodIn wsX7_mend (wsV RX7 108 RX1 yX1_stepsOf wsX1_stepsOf) := goodIn_app (goodIn_of _ (by decide +kernel)) ggX7_mend_X1_stepsOf
set_option maxRecDepth 20000 in
theorem ggX7_mend_X0_remember : GoodIn wsX7_mend wsX0_remember := goodIn_r _ [23, 24, 25, 26, 27, 28, 29, 30, 31, 32, 33, 13, 34, 15, 35, 36, 37, 38, 65, 66, 67, 64] (by decide +kernel) (by decide +kernel)
set_option maxRecDepth 20000 in
theorem gX7_mend_X0_remember : GoodIn wsX7_mend (wsV RX7 148 RX0 yX0_remember wsX0_remember) := goodIn_app (goodIn_of _ (by decide +kernel)) ggX7_mend_X0_remember
set_option maxRecDepth 20000 in
theorem ggX7_mend_X1_loseSteps : GoodIn wsX7_mend wsX1_loseSteps := goodIn_r _ [42, 15, 16, 17, 13, 18, 64] (by decide +kernel) (by decide +kernel)
set_option maxRecDepth 20000 in
theorem gX7_mend_X1_loseSteps : GoodIn wsX7_mend (wsV RX7 169 RX1 yX1_loseSteps wsX1_loseSteps) := goodIn_app (goodIn_of _ (by decide +kernel)) ggX7_mend_X1_loseSteps
theorem dX7_mend_0 : decode cX7_mend 0 = .ok (.aload_n 0, 1) := by decide +kernel
theorem dX7_mend_1 : decode cX7_mend 1 = .ok (.getfield 27, 3) := by decide +kernel
theorem dX7_mend_4 : decode cX7_mend 4 = .ok (.iload_n 1, 1) := by decide +kernel
theorem dX7_mend_5 : decode cX7_mend 5 = .ok (.invokevirtual 97, 3) := by decide +kernel
theorem dX7_mend_8 : decode cX7_mend 8 = .ok (.ifCond .ne 5, 3) := by decide +kernel
theorem dX7_mend_11 : decode cX7_mend 11 = .ok (.iconst (-1), 1) := by decide +kernel
theorem dX7_mend_12 : decode cX7_mend 12 = .ok (.ireturn, 1) := by decide +kernel
theorem dX7_mend_13 : decode cX7_mend 13 = .ok (.aload_n 0, 1) := by decide +kernel
theorem dX7_mend_14 : decode cX7_mend 14 = .ok (.getfield 34, 3) := by decide +kernel
theorem dX7_mend_17 : decode cX7_mend 17 = .ok (.iload_n 1, 1) := by decide +kernel
theorem dX7_mend_18 : decode cX7_mend 18 = .ok (.invokevirtual 108, 3) := by decide +kernel
theorem dX7_mend_21 : decode cX7_mend 21 = .ok (.istore_n 2, 1) := by decide +kernel
theorem dX7_mend_22 : decode cX7_mend 22 = .ok (.iload_n 2, 1) := by decide +kernel
theorem dX7_mend_23 : decode cX7_mend 23 = .ok (.ifCond .ne 6, 3) := by decide +kernel
theorem dX7_mend_26 : decode cX7_mend 26 = .ok (.bipush (-3), 2) := by decide +kernel
theorem dX7_mend_28 : decode cX7_mend 28 = .ok (.ireturn, 1) := by decide +kernel
theorem dX7_mend_29 : decode cX7_mend 29 = .ok (.aload_n 0, 1) := by decide +kernel
theorem dX7_mend_30 : decode cX7_mend 30 = .ok (.getfield 41, 3) := by decide +kernel
theorem dX7_mend_33 : decode cX7_mend 33 = .ok (.aload_n 0, 1) := by decide +kernel
theorem dX7_mend_34 : decode cX7_mend 34 = .ok (.getfield 34, 3) := by decide +kernel
theorem dX7_mend_37 : decode cX7_mend 37 = .ok (.invokevirtual 148, 3) := by decide +kernel
theorem dX7_mend_40 : decode cX7_mend 40 = .ok (.aload_n 0, 1) := by decide +kernel
theorem dX7_mend_41 : decode cX7_mend 41 = .ok (.getfield 34, 3) := by decide +kernel
theorem dX7_mend_44 : decode cX7_mend 44 = .ok (.iload_n 1, 1) := by decide +kernel
theorem dX7_mend_45 : decode cX7_mend 45 = .ok (.invokevirtual 169, 3) := by decide +kernel
theorem dX7_mend_48 : decode cX7_mend 48 = .ok (.iload_n 2, 1) := by decide +kernel
theorem dX7_mend_49 : decode cX7_mend 49 = .ok (.ireturn, 1) := by decide +kernel
set_option maxRecDepth 20000 in
theorem ggX7_undo_X0_takeBack : GoodIn wsX7_undo wsX0_takeBack := goodIn_r _ [8, 9, 10, 11, 12, 13, 14, 15, 16, 17, 18, 19, 20, 21, 34, 35, 36, 37] (by decide +kernel) (by decide +kernel)
set_option maxRecDepth 20000 in
theorem gX7_undo_X0_takeBack : GoodIn wsX7_undo (wsV RX7 175 RX0 yX0_takeBack wsX0_takeBack) := goodIn_app (goodIn_of _ (by decide +kernel)) ggX7_undo_X0_takeBack
theorem dX7_undo_0 : decode cX7_undo 0 = .ok (.aload_n 0, 1) := by decide +kernel
theorem dX7_undo_1 : decode cX7_undo 1 = .ok (.getfield 41, 3) := by decide +kernel
theorem dX7_undo_4 : decode cX7_undo 4 = .ok (.getfield 172, 3) := by decide +kernel
theorem dX7_undo_7 : decode cX7_undo 7 = .ok (.ifCond .ne 6, 3) := by decide +kernel
theorem dX7_undo_10 : decode cX7_undo 10 = .ok (.bipush (-3), 2) := by decide +kernel
theorem dX7_undo_12 : decode cX7_undo 12 = .ok (.ireturn, 1) := by decide +kernel
theorem dX7_undo_13 : decode cX7_undo 13 = .ok (.aload_n 0, 1) := by decide +kernel
theorem dX7_undo_14 : decode cX7_undo 14 = .ok (.getfield 41, 3) := by decide +kernel
theorem dX7_undo_17 : decode cX7_undo 17 = .ok (.aload_n 0, 1) := by decide +kernel
theorem dX7_undo_18 : decode cX7_undo 18 = .ok (.getfield 34, 3) := by decide +kernel
theorem dX7_undo_21 : decode cX7_undo 21 = .ok (.invokevirtual 175, 3) := by decide +kernel
theorem dX7_undo_24 : decode cX7_undo 24 = .ok (.aload_n 0, 1) := by decide +kernel
theorem dX7_undo_25 : decode cX7_undo 25 = .ok (.getfield 41, 3) := by decide +kernel
theorem dX7_undo_28 : decode cX7_undo 28 = .ok (.getfield 172, 3) := by decide +kernel
theorem dX7_undo_31 : decode cX7_undo 31 = .ok (.ireturn, 1) := by decide +kernel
set_option maxRecDepth 20000 in
theorem ggX7_price_X4_hasRoom : GoodIn wsX7_price wsX4_hasRoom := goodIn_r _ [11, 12, 57, 58, 59, 60, 61, 62, 63, 64, 65] (by decide +kernel) (by decide +kernel)
set_option maxRecDepth 20000 in
theorem gX7_price_X4_hasRoom : GoodIn wsX7_price (wsV RX7 97 RX4 yX4_hasRoom wsX4_hasRoom) := goodIn_app (goodIn_of _ (by decide +kernel)) ggX7_price_X4_hasRoom
set_option maxRecDepth 20000 in
theorem ggX7_price_X1_knotsOf : GoodIn wsX7_price wsX1_knotsOf := goodIn_r _ [17, 18, 19, 20, 16, 21, 66] (by decide +kernel) (by decide +kernel)
set_option maxRecDepth 20000 in
theorem gX7_price_X1_knotsOf : GoodIn wsX7_price (wsV RX7 105 RX1 yX1_knotsOf wsX1_knotsOf) := goodIn_app (goodIn_of _ (by decide +kernel)) ggX7_price_X1_knotsOf
set_option maxRecDepth 20000 in
theorem ggX7_price_X1_knotAt : GoodIn wsX7_price wsX1_knotAt := goodIn_r _ [25, 18, 26, 14, 15, 16, 17, 19, 20, 21, 27, 28, 29, 66] (by decide +kernel) (by decide +kernel)
set_option maxRecDepth 20000 in
theorem gX7_price_X1_knotAt : GoodIn wsX7_price (wsV RX7 142 RX1 yX1_knotAt wsX1_knotAt) := goodIn_app (goodIn_of _ (by decide +kernel)) ggX7_price_X1_knotAt
set_option maxRecDepth 20000 in
theorem ggX7_price_X7_priceOfKnot : GoodIn wsX7_price wsX7_priceOfKnot := goodIn_r _ [34, 1, 35, 36, 37, 38, 10, 39, 40, 45, 46, 47, 48, 49, 50, 51, 52, 53, 54, 55, 56, 57, 58, 59, 60, 61, 62, 63, 64, 65] (by decide +kernel) (by decide +kernel)
set_option maxRecDepth 20000 in
theorem gX7_price_X7_priceOfKnot : GoodIn wsX7_price (wsV RX7 178 RX7 yX7_priceOfKnot wsX7_priceOfKnot) := goodIn_app (goodIn_of _ (by decide +kernel)) ggX7_price_X7_priceOfKnot
set_option maxRecDepth 20000 in
theorem ggX7_price_X1_stepsOf : GoodIn wsX7_price wsX1_stepsOf := goodIn_r _ [44, 18, 19, 20, 16, 21, 66] (by decide +kernel) (by decide +kernel)
set_option maxRecDepth 20000 in
theorem gX7_price_X1_stepsOf : GoodIn wsX7_price (wsV RX7 108 RX1 yX1_stepsOf wsX1_stepsOf) := goodIn_app (goodIn_of _ (by decide +kernel)) ggX7_price_X1_stepsOf
theorem dX7_price_0 : decode cX7_price 0 = .ok (.aload_n 0, 1) := by decide +kernel
theorem dX7_price_1 : decode cX7_price 1 = .ok (.getfield 27, 3) := by decide +kernel
theorem dX7_price_4 : decode cX7_price 4 = .ok (.iload_n 1, 1) := by decide +kernel
theorem dX7_price_5 : decode cX7_price 5 = .ok (.invokevirtual 97, 3) := by decide +kernel
theorem dX7_price_8 : decode cX7_price 8 = .ok (.ifCond .ne 5, 3) := by decide +kernel
theorem dX7_price_11 : decode cX7_price 11 = .ok (.iconst (-1), 1) := by decide +kernel
theorem dX7_price_12 : decode cX7_price 12 = .ok (.ireturn, 1) := by decide +kernel
theorem dX7_price_13 : decode cX7_price 13 = .ok (.iconst 0, 1) := by decide +kernel
theorem dX7_price_14 : decode cX7_price 14 = .ok (.istore_n 2, 1) := by decide +kernel
theorem dX7_price_15 : decode cX7_price 15 = .ok (.aload_n 0, 1) := by decide +kernel
theorem dX7_price_16 : decode cX7_price 16 = .ok (.getfield 34, 3) := by decide +kernel
theorem dX7_price_19 : decode cX7_price 19 = .ok (.iload_n 1, 1) := by decide +kernel
theorem dX7_price_20 : decode cX7_price 20 = .ok (.invokevirtual 105, 3) := by decide +kernel
theorem dX7_price_23 : decode cX7_price 23 = .ok (.istore_n 3, 1) := by decide +kernel
theorem dX7_price_24 : decode cX7_price 24 = .ok (.iconst 0, 1) := by decide +kernel
theorem dX7_price_25 : decode cX7_price 25 = .ok (.istore 4, 2) := by decide +kernel
theorem dX7_price_27 : decode cX7_price 27 = .ok (.iload 4, 2) := by decide +kernel
theorem dX7_price_29 : decode cX7_price 29 = .ok (.iload_n 3, 1) := by decide +kernel
theorem dX7_price_30 : decode cX7_price 30 = .ok (.if_icmp .ge 26, 3) := by decide +kernel
theorem dX7_price_33 : decode cX7_price 33 = .ok (.iload_n 2, 1) := by decide +kernel
theorem dX7_price_34 : decode cX7_price 34 = .ok (.aload_n 0, 1) := by decide +kernel
theorem dX7_price_35 : decode cX7_price 35 = .ok (.aload_n 0, 1) := by decide +kernel
theorem dX7_price_36 : decode cX7_price 36 = .ok (.getfield 34, 3) := by decide +kernel
theorem dX7_price_39 : decode cX7_price 39 = .ok (.iload_n 1, 1) := by decide +kernel
theorem dX7_price_40 : decode cX7_price 40 = .ok (.iload 4, 2) := by decide +kernel
theorem dX7_price_42 : decode cX7_price 42 = .ok (.invokevirtual 142, 3) := by decide +kernel
theorem dX7_price_45 : decode cX7_price 45 = .ok (.invokevirtual 178, 3) := by decide +kernel
theorem dX7_price_48 : decode cX7_price 48 = .ok (.iadd, 1) := by decide +kernel
theorem dX7_price_49 : decode cX7_price 49 = .ok (.istore_n 2, 1) := by decide +kernel
theorem dX7_price_50 : decode cX7_price 50 = .ok (.iinc 4 1, 3) := by decide +kernel
theorem dX7_price_53 : decode cX7_price 53 = .ok (.goto (-26), 3) := by decide +kernel
theorem dX7_price_56 : decode cX7_price 56 = .ok (.iconst 0, 1) := by decide +kernel
theorem dX7_price_57 : decode cX7_price 57 = .ok (.iload_n 2, 1) := by decide +kernel
theorem dX7_price_58 : decode cX7_price 58 = .ok (.aload_n 0, 1) := by decide +kernel
theorem dX7_price_59 : decode cX7_price 59 = .ok (.getfield 34, 3) := by decide +kernel
theorem dX7_price_62 : decode cX7_price 62 = .ok (.iload_n 1, 1) := by decide +kernel
theorem dX7_price_63 : decode cX7_price 63 = .ok (.invokevirtual 108, 3) := by decide +kernel
theorem dX7_price_66 : decode cX7_price 66 = .ok (.isub, 1) := by decide +kernel
theorem dX7_price_67 : decode cX7_price 67 = .ok (.invokestatic 181, 3) := by decide +kernel
theorem dX7_price_70 : decode cX7_price 70 = .ok (.ireturn, 1) := by decide +kernel
set_option maxRecDepth 20000 in
theorem ggX7_fringe_X4_hasRoom : GoodIn wsX7_fringe wsX4_hasRoom := goodIn_r _ [11, 12, 53, 54, 55, 56, 57, 58, 59, 60, 61] (by decide +kernel) (by decide +kernel)
set_option maxRecDepth 20000 in
theorem gX7_fringe_X4_hasRoom : GoodIn wsX7_fringe (wsV RX7 97 RX4 yX4_hasRoom wsX4_hasRoom) := goodIn_app (goodIn_of _ (by decide +kernel)) ggX7_fringe_X4_hasRoom
set_option maxRecDepth 20000 in
theorem ggX7_fringe_X1_knotsOf : GoodIn wsX7_fringe wsX1_knotsOf := goodIn_r _ [17, 18, 19, 20, 16, 21, 62] (by decide +kernel) (by decide +kernel)
set_option maxRecDepth 20000 in
theorem gX7_fringe_X1_knotsOf : GoodIn wsX7_fringe (wsV RX7 105 RX1 yX1_knotsOf wsX1_knotsOf) := goodIn_app (goodIn_of _ (by decide +kernel)) ggX7_fringe_X1_knotsOf
set_option maxRecDepth 20000 in
theorem ggX7_fringe_X1_knotAt : GoodIn wsX7_fringe wsX1_knotAt := goodIn_r _ [25, 18, 26, 14, 15, 16, 17, 19, 20, 21, 27, 28, 29, 62] (by decide +kernel) (by decide +kernel)
set_option maxRecDepth 20000 in
theorem gX7_fringe_X1_knotAt : GoodIn wsX7_fringe (wsV RX7 142 RX1 yX1_knotAt wsX1_knotAt) := goodIn_app (goodIn_of _ (by decide +kernel)) ggX7_fringe_X1_knotAt
set_option maxRecDepth 20000 in
theorem ggX7_fringe_X7_looksOfKnot : GoodIn wsX7_fringe wsX7_looksOfKnot := goodIn_r _ [34, 1, 35, 36, 37, 38, 10, 39, 40, 41, 42, 43, 44, 45, 46, 47, 48, 49, 50, 51, 52, 53, 54, 55, 56, 57, 58, 59, 60, 61] (by decide +kernel) (by decide +kernel)
set_option maxRecDepth 20000 in
theorem gX7_fringe_X7_looksOfKnot : GoodIn wsX7_fringe (wsV RX7 189 RX7 yX7_looksOfKnot wsX7_looksOfKnot) := goodIn_app (goodIn_of _ (by decide +kernel)) ggX7_fringe_X7_looksOfKnot
theorem dX7_fringe_0 : decode cX7_fringe 0 = .ok (.aload_n 0, 1) := by decide +kernel
theorem dX7_fringe_1 : decode cX7_fringe 1 = .ok (.getfield 27, 3) := by decide +kernel
theorem dX7_fringe_4 : decode cX7_fringe 4 = .ok (.iload_n 1, 1) := by decide +kernel
theorem dX7_fringe_5 : decode cX7_fringe 5 = .ok (.invokevirtual 97, 3) := by decide +kernel
theorem dX7_fringe_8 : decode cX7_fringe 8 = .ok (.ifCond .eq 14, 3) := by decide +kernel
theorem dX7_fringe_11 : decode cX7_fringe 11 = .ok (.aload_n 0, 1) := by decide +kernel
theorem dX7_fringe_12 : decode cX7_fringe 12 = .ok (.getfield 27, 3) := by decide +kernel
theorem dX7_fringe_15 : decode cX7_fringe 15 = .ok (.iload_n 2, 1) := by decide +kernel
theorem dX7_fringe_16 : decode cX7_fringe 16 = .ok (.invokevirtual 97, 3) := by decide +kernel
theorem dX7_fringe_19 : decode cX7_fringe 19 = .ok (.ifCond .ne 5, 3) := by decide +kernel
theorem dX7_fringe_22 : decode cX7_fringe 22 = .ok (.iconst (-1), 1) := by decide +kernel
theorem dX7_fringe_23 : decode cX7_fringe 23 = .ok (.ireturn, 1) := by decide +kernel
theorem dX7_fringe_24 : decode cX7_fringe 24 = .ok (.iload_n 1, 1) := by decide +kernel
theorem dX7_fringe_25 : decode cX7_fringe 25 = .ok (.iload_n 2, 1) := by decide +kernel
theorem dX7_fringe_26 : decode cX7_fringe 26 = .ok (.if_icmp .ne 6, 3) := by decide +kernel
theorem dX7_fringe_29 : decode cX7_fringe 29 = .ok (.bipush (-2), 2) := by decide +kernel
theorem dX7_fringe_31 : decode cX7_fringe 31 = .ok (.ireturn, 1) := by decide +kernel
theorem dX7_fringe_32 : decode cX7_fringe 32 = .ok (.aload_n 0, 1) := by decide +kernel
theorem dX7_fringe_33 : decode cX7_fringe 33 = .ok (.getfield 34, 3) := by decide +kernel
theorem dX7_fringe_36 : decode cX7_fringe 36 = .ok (.iload_n 1, 1) := by decide +kernel
theorem dX7_fringe_37 : decode cX7_fringe 37 = .ok (.invokevirtual 105, 3) := by decide +kernel
theorem dX7_fringe_40 : decode cX7_fringe 40 = .ok (.istore_n 3, 1) := by decide +kernel
theorem dX7_fringe_41 : decode cX7_fringe 41 = .ok (.aload_n 0, 1) := by decide +kernel
theorem dX7_fringe_42 : decode cX7_fringe 42 = .ok (.getfield 34, 3) := by decide +kernel
theorem dX7_fringe_45 : decode cX7_fringe 45 = .ok (.iload_n 2, 1) := by decide +kernel
theorem dX7_fringe_46 : decode cX7_fringe 46 = .ok (.invokevirtual 105, 3) := by decide +kernel
theorem dX7_fringe_49 : decode cX7_fringe 49 = .ok (.istore 4, 2) := by decide +kernel
theorem dX7_fringe_51 : decode cX7_fringe 51 = .ok (.iload_n 3, 1) := by decide +kernel
theorem dX7_fringe_52 : decode cX7_fringe 52 = .ok (.iload 4, 2) := by decide +kernel
theorem dX7_fringe_54 : decode cX7_fringe 54 = .ok (.invokestatic 186, 3) := by decide +kernel
theorem dX7_fringe_57 : decode cX7_fringe 57 = .ok (.istore 5, 2) := by decide +kernel
theorem dX7_fringe_59 : decode cX7_fringe 59 = .ok (.iconst 0, 1) := by decide +kernel
theorem dX7_fringe_60 : decode cX7_fringe 60 = .ok (.istore 6, 2) := by decide +kernel
theorem dX7_fringe_62 : decode cX7_fringe 62 = .ok (.iload 6, 2) := by decide +kernel
theorem dX7_fringe_64 : decode cX7_fringe 64 = .ok (.iload 5, 2) := by decide +kernel
theorem dX7_fringe_66 : decode cX7_fringe 66 = .ok (.if_icmp .ge 49, 3) := by decide +kernel
theorem dX7_fringe_69 : decode cX7_fringe 69 = .ok (.aload_n 0, 1) := by decide +kernel
theorem dX7_fringe_70 : decode cX7_fringe 70 = .ok (.aload_n 0, 1) := by decide +kernel
theorem dX7_fringe_71 : decode cX7_fringe 71 = .ok (.getfield 34, 3) := by decide +kernel
theorem dX7_fringe_74 : decode cX7_fringe 74 = .ok (.iload_n 1, 1) := by decide +kernel
theorem dX7_fringe_75 : decode cX7_fringe 75 = .ok (.iload_n 3, 1) := by decide +kernel
theorem dX7_fringe_76 : decode cX7_fringe 76 = .ok (.iconst 1, 1) := by decide +kernel
theorem dX7_fringe_77 : decode cX7_fringe 77 = .ok (.isub, 1) := by decide +kernel
theorem dX7_fringe_78 : decode cX7_fringe 78 = .ok (.iload 6, 2) := by decide +kernel
theorem dX7_fringe_80 : decode cX7_fringe 80 = .ok (.isub, 1) := by decide +kernel
theorem dX7_fringe_81 : decode cX7_fringe 81 = .ok (.invokevirtual 142, 3) := by decide +kernel
theorem dX7_fringe_84 : decode cX7_fringe 84 = .ok (.invokevirtual 189, 3) := by decide +kernel
theorem dX7_fringe_87 : decode cX7_fringe 87 = .ok (.aload_n 0, 1) := by decide +kernel
theorem dX7_fringe_88 : decode cX7_fringe 88 = .ok (.aload_n 0, 1) := by decide +kernel
theorem dX7_fringe_89 : decode cX7_fringe 89 = .ok (.getfield 34, 3) := by decide +kernel
theorem dX7_fringe_92 : decode cX7_fringe 92 = .ok (.iload_n 2, 1) := by decide +kernel
theorem dX7_fringe_93 : decode cX7_fringe 93 = .ok (.iload 4, 2) := by decide +kernel
theorem dX7_fringe_95 : decode cX7_fringe 95 = .ok (.iconst 1, 1) := by decide +kernel
theorem dX7_fringe_96 : decode cX7_fringe 96 = .ok (.isub, 1) := by decide +kernel
theorem dX7_fringe_97 : decode cX7_fringe 97 = .ok (.iload 6, 2) := by decide +kernel
theorem dX7_fringe_99 : decode cX7_fringe 99 = .ok (.isub, 1) := by decide +kernel
theorem dX7_fringe_100 : decode cX7_fringe 100 = .ok (.invokevirtual 142, 3) := by decide +kernel
theorem dX7_fringe_103 : decode cX7_fringe 103 = .ok (.invokevirtual 189, 3) := by decide +kernel
theorem dX7_fringe_106 : decode cX7_fringe 106 = .ok (.if_icmp .ne 9, 3) := by decide +kernel
theorem dX7_fringe_109 : decode cX7_fringe 109 = .ok (.iinc 6 1, 3) := by decide +kernel
theorem dX7_fringe_112 : decode cX7_fringe 112 = .ok (.goto (-50), 3) := by decide +kernel
theorem dX7_fringe_115 : decode cX7_fringe 115 = .ok (.iload 6, 2) := by decide +kernel
theorem dX7_fringe_117 : decode cX7_fringe 117 = .ok (.ireturn, 1) := by decide +kernel
set_option maxRecDepth 20000 in
theorem ggX7_trouble_X4_hasSet : GoodIn wsX7_trouble wsX4_hasSet := goodIn_r _ [6, 7, 8, 9, 5, 10, 11, 42, 43, 44, 45, 46, 47, 48, 49, 50] (by decide +kernel) (by decide +kernel)
set_option maxRecDepth 20000 in
theorem gX7_trouble_X4_hasSet : GoodIn wsX7_trouble (wsV RX7 145 RX4 yX4_hasSet wsX4_hasSet) := goodIn_app (goodIn_of _ (by decide +kernel)) ggX7_trouble_X4_hasSet
set_option maxRecDepth 20000 in
theorem ggX7_trouble_X4_troubleIf : GoodIn wsX7_trouble wsX4_troubleIf := goodIn_r _ [15, 11, 16, 17, 18, 19, 5, 20, 21, 22, 23, 24, 25, 26, 27, 28, 29, 42, 43, 44, 45, 46, 47, 48, 49, 50] (by decide +kernel) (by decide +kernel)
set_option maxRecDepth 20000 in
theorem gX7_trouble_X4_troubleIf : GoodIn wsX7_trouble (wsV RX7 192 RX4 yX4_troubleIf wsX4_troubleIf) := goodIn_app (goodIn_of _ (by decide +kernel)) ggX7_trouble_X4_troubleIf
theorem dX7_trouble_0 : decode cX7_trouble 0 = .ok (.aload_n 0, 1) := by decide +kernel
theorem dX7_trouble_1 : decode cX7_trouble 1 = .ok (.getfield 27, 3) := by decide +kernel
theorem dX7_trouble_4 : decode cX7_trouble 4 = .ok (.iload_n 1, 1) := by decide +kernel
theorem dX7_trouble_5 : decode cX7_trouble 5 = .ok (.invokevirtual 145, 3) := by decide +kernel
theorem dX7_trouble_8 : decode cX7_trouble 8 = .ok (.ifCond .ne 6, 3) := by decide +kernel
theorem dX7_trouble_11 : decode cX7_trouble 11 = .ok (.bipush (-2), 2) := by decide +kernel
theorem dX7_trouble_13 : decode cX7_trouble 13 = .ok (.ireturn, 1) := by decide +kernel
theorem dX7_trouble_14 : decode cX7_trouble 14 = .ok (.aload_n 0, 1) := by decide +kernel
theorem dX7_trouble_15 : decode cX7_trouble 15 = .ok (.getfield 27, 3) := by decide +kernel
theorem dX7_trouble_18 : decode cX7_trouble 18 = .ok (.iload_n 1, 1) := by decide +kernel
theorem dX7_trouble_19 : decode cX7_trouble 19 = .ok (.invokevirtual 192, 3) := by decide +kernel
theorem dX7_trouble_22 : decode cX7_trouble 22 = .ok (.ireturn, 1) := by decide +kernel
set_option maxRecDepth 20000 in
theorem ggX7_invite_X4_hasRoom : GoodIn wsX7_invite wsX4_hasRoom := goodIn_r _ [7, 8, 126, 127, 128, 129, 130, 131, 132, 133, 134] (by decide +kernel) (by decide +kernel)
set_option maxRecDepth 20000 in
theorem gX7_invite_X4_hasRoom : GoodIn wsX7_invite (wsV RX7 97 RX4 yX4_hasRoom wsX4_hasRoom) := goodIn_app (goodIn_of _ (by decide +kernel)) ggX7_invite_X4_hasRoom
set_option maxRecDepth 20000 in
theorem ggX7_invite_X5_plan : GoodIn wsX7_invite wsX5_plan := goodIn_r _ [13, 14, 15, 16, 17, 18, 19, 20, 21, 22, 23, 24, 6, 25, 26, 27, 4, 5, 7, 8, 28, 29, 30, 31, 32, 33, 34, 35, 36, 37, 38, 39, 40, 41, 42, 43, 12, 44, 45, 46, 47, 48, 49, 50, 51, 52, 53, 54, 55, 56, 57, 58, 59, 60, 61, 62, 63, 64, 65, 66, 67, 68, 69, 70, 71, 72, 73, 74, 75, 76, 77, 78, 79, 80, 81, 82, 83, 84, 85, 86, 87, 88, 89, 90, 91, 135, 136, 137, 138, 139, 126, 127, 128, 129, 130, 131, 132, 133, 134] (by decide +kernel) (by decide +kernel)
set_option maxRecDepth 20000 in
theorem gX7_invite_X5_plan : GoodIn wsX7_invite (wsV RX7 195 RX5 yX5_plan wsX5_plan) := goodIn_app (goodIn_of _ (by decide +kernel)) ggX7_invite_X5_plan
set_option maxRecDepth 20000 in
theorem ggX7_invite_X7_standOf : GoodIn wsX7_invite wsX7_standOf := goodIn_r _ [95, 96, 97, 98, 99, 100, 101, 102, 103, 104, 105, 106, 107, 108, 109, 114, 115, 116, 117, 118, 119, 120, 121, 122, 123, 124, 125, 140] (by decide +kernel) (by decide +kernel)
set_option maxRecDepth 20000 in
theorem gX7_invite_X7_standOf : GoodIn wsX7_invite (wsV RX7 199 RX7 yX7_standOf wsX7_standOf) := goodIn_app (goodIn_of _ (by decide +kernel)) ggX7_invite_X7_standOf
set_option maxRecDepth 20000 in
theorem ggX7_invite_X5_leastTrouble : GoodIn wsX7_invite wsX5_leastTrouble := goodIn_r _ [113, 21, 88, 89, 90, 12, 91, 20, 135, 136, 137, 138, 139] (by decide +kernel) (by decide +kernel)
set_option maxRecDepth 20000 in
theorem gX7_invite_X5_leastTrouble : GoodIn wsX7_invite (wsV RX7 202 RX5 yX5_leastTrouble wsX5_leastTrouble) := goodIn_app (goodIn_of _ (by decide +kernel)) ggX7_invite_X5_leastTrouble
theorem dX7_invite_0 : decode cX7_invite 0 = .ok (.aload_n 0, 1) := by decide +kernel
theorem dX7_invite_1 : decode cX7_invite 1 = .ok (.getfield 27, 3) := by decide +kernel
theorem dX7_invite_4 : decode cX7_invite 4 = .ok (.iload_n 1, 1) := by decide +kernel
theorem dX7_invite_5 : decode cX7_invite 5 = .ok (.invokevirtual 97, 3) := by decide +kernel
theorem dX7_invite_8 : decode cX7_invite 8 = .ok (.ifCond .ne 5, 3) := by decide +kernel
theorem dX7_invite_11 : decode cX7_invite 11 = .ok (.iconst (-1), 1) := by decide +kernel
theorem dX7_invite_12 : decode cX7_invite 12 = .ok (.ireturn, 1) := by decide +kernel
theorem dX7_invite_13 : decode cX7_invite 13 = .ok (.iload_n 2, 1) := by decide +kernel
theorem dX7_invite_14 : decode cX7_invite 14 = .ok (.iconst 1, 1) := by decide +kernel
theorem dX7_invite_15 : decode cX7_invite 15 = .ok (.if_icmp .lt 9, 3) := by decide +kernel
theorem dX7_invite_18 : decode cX7_invite 18 = .ok (.iload_n 2, 1) := by decide +kernel
theorem dX7_invite_19 : decode cX7_invite 19 = .ok (.bipush 6, 2) := by decide +kernel
theorem dX7_invite_21 : decode cX7_invite 21 = .ok (.if_icmp .le 6, 3) := by decide +kernel
theorem dX7_invite_24 : decode cX7_invite 24 = .ok (.bipush (-2), 2) := by decide +kernel
theorem dX7_invite_26 : decode cX7_invite 26 = .ok (.ireturn, 1) := by decide +kernel
theorem dX7_invite_27 : decode cX7_invite 27 = .ok (.aload_n 0, 1) := by decide +kernel
theorem dX7_invite_28 : decode cX7_invite 28 = .ok (.getfield 64, 3) := by decide +kernel
theorem dX7_invite_31 : decode cX7_invite 31 = .ok (.aload_n 0, 1) := by decide +kernel
theorem dX7_invite_32 : decode cX7_invite 32 = .ok (.getfield 27, 3) := by decide +kernel
theorem dX7_invite_35 : decode cX7_invite 35 = .ok (.iload_n 1, 1) := by decide +kernel
theorem dX7_invite_36 : decode cX7_invite 36 = .ok (.iload_n 2, 1) := by decide +kernel
theorem dX7_invite_37 : decode cX7_invite 37 = .ok (.invokevirtual 195, 3) := by decide +kernel
theorem dX7_invite_40 : decode cX7_invite 40 = .ok (.aload_n 0, 1) := by decide +kernel
theorem dX7_invite_41 : decode cX7_invite 41 = .ok (.getfield 64, 3) := by decide +kernel
theorem dX7_invite_44 : decode cX7_invite 44 = .ok (.iload_n 2, 1) := by decide +kernel
theorem dX7_invite_45 : decode cX7_invite 45 = .ok (.aload_n 0, 1) := by decide +kernel
theorem dX7_invite_46 : decode cX7_invite 46 = .ok (.iload_n 1, 1) := by decide +kernel
theorem dX7_invite_47 : decode cX7_invite 47 = .ok (.invokevirtual 199, 3) := by decide +kernel
theorem dX7_invite_50 : decode cX7_invite 50 = .ok (.invokevirtual 202, 3) := by decide +kernel
theorem dX7_invite_53 : decode cX7_invite 53 = .ok (.ireturn, 1) := by decide +kernel
set_option maxRecDepth 20000 in
theorem ggX7_inviteAt_X4_hasRoom : GoodIn wsX7_inviteAt wsX4_hasRoom := goodIn_r _ [7, 8, 135, 136, 137, 138, 139, 140, 141, 142, 143] (by decide +kernel) (by decide +kernel)
set_option maxRecDepth 20000 in
theorem gX7_inviteAt_X4_hasRoom : GoodIn wsX7_inviteAt (wsV RX7 97 RX4 yX4_hasRoom wsX4_hasRoom) := goodIn_app (goodIn_of _ (by decide +kernel)) ggX7_inviteAt_X4_hasRoom
set_option maxRecDepth 20000 in
theorem ggX7_inviteAt_X5_plan : GoodIn wsX7_inviteAt wsX5_plan := goodIn_r _ [13, 14, 15, 16, 17, 18, 19, 20, 21, 22, 23, 24, 6, 25, 26, 27, 4, 5, 7, 8, 28, 29, 30, 31, 32, 33, 34, 35, 36, 37, 38, 39, 40, 41, 42, 43, 12, 44, 45, 46, 47, 48, 49, 50, 51, 52, 53, 54, 55, 56, 57, 58, 59, 60, 61, 62, 63, 64, 65, 66, 67, 68, 69, 70, 71, 72, 73, 74, 75, 76, 77, 78, 79, 80, 81, 82, 83, 84, 85, 86, 87, 88, 89, 90, 91, 144, 145, 146, 147, 148, 135, 136, 137, 138, 139, 140, 141, 142, 143] (by decide +kernel) (by decide +kernel)
set_option maxRecDepth 20000 in
theorem gX7_inviteAt_X5_plan : GoodIn wsX7_inviteAt (wsV RX7 195 RX5 yX5_plan wsX5_plan) := goodIn_app (goodIn_of _ (by decide +kernel)) ggX7_inviteAt_X5_plan
set_option maxRecDepth 20000 in
theorem ggX7_inviteAt_X7_standOf : GoodIn wsX7_inviteAt wsX7_standOf := goodIn_r _ [95, 96, 97, 98, 99, 100, 101, 102, 103, 104, 105, 106, 107, 108, 109, 123, 124, 125, 126, 127, 128, 129, 130, 131, 132, 133, 134, 149] (by decide +kernel) (by decide +kernel)
set_option maxRecDepth 20000 in
theorem gX7_inviteAt_X7_standOf : GoodIn wsX7_inviteAt (wsV RX7 199 RX7 yX7_standOf wsX7_standOf) := goodIn_app (goodIn_of _ (by decide +kernel)) ggX7_inviteAt_X7_standOf
set_option maxRecDepth 20000 in
theorem ggX7_inviteAt_X5_setOfDinner : GoodIn wsX7_inviteAt wsX5_setOfDinner := goodIn_r _ [113, 46, 114, 115, 116, 12, 117, 21, 88, 89, 90, 91, 20, 118, 119, 120, 121, 19, 122, 86, 17, 87, 73, 74, 75, 76, 45, 77, 78, 79, 80, 14, 81, 82, 83, 84, 16, 18, 85, 144, 145, 146, 147, 148] (by decide +kernel) (by decide +kernel)
set_option maxRecDepth 20000 in
theorem gX7_inviteAt_X5_setOfDinner : GoodIn wsX7_inviteAt (wsV RX7 205 RX5 yX5_setOfDinner wsX5_setOfDinner) := goodIn_app (goodIn_of _ (by decide +kernel)) ggX7_inviteAt_X5_setOfDinner
theorem dX7_inviteAt_0 : decode cX7_inviteAt 0 = .ok (.aload_n 0, 1) := by decide +kernel
theorem dX7_inviteAt_1 : decode cX7_inviteAt 1 = .ok (.getfield 27, 3) := by decide +kernel
theorem dX7_inviteAt_4 : decode cX7_inviteAt 4 = .ok (.iload_n 1, 1) := by decide +kernel
theorem dX7_inviteAt_5 : decode cX7_inviteAt 5 = .ok (.invokevirtual 97, 3) := by decide +kernel
theorem dX7_inviteAt_8 : decode cX7_inviteAt 8 = .ok (.ifCond .ne 5, 3) := by decide +kernel
theorem dX7_inviteAt_11 : decode cX7_inviteAt 11 = .ok (.iconst (-1), 1) := by decide +kernel
theorem dX7_inviteAt_12 : decode cX7_inviteAt 12 = .ok (.ireturn, 1) := by decide +kernel
theorem dX7_inviteAt_13 : decode cX7_inviteAt 13 = .ok (.iload_n 2, 1) := by decide +kernel
theorem dX7_inviteAt_14 : decode cX7_inviteAt 14 = .ok (.iconst 1, 1) := by decide +kernel
theorem dX7_inviteAt_15 : decode cX7_inviteAt 15 = .ok (.if_icmp .lt 9, 3) := by decide +kernel
theorem dX7_inviteAt_18 : decode cX7_inviteAt 18 = .ok (.iload_n 2, 1) := by decide +kernel
theorem dX7_inviteAt_19 : decode cX7_inviteAt 19 = .ok (.bipush 6, 2) := by decide +kernel
theorem dX7_inviteAt_21 : decode cX7_inviteAt 21 = .ok (.if_icmp .le 6, 3) := by decide +kernel
theorem dX7_inviteAt_24 : decode cX7_inviteAt 24 = .ok (.bipush (-2), 2) := by decide +kernel
theorem dX7_inviteAt_26 : decode cX7_inviteAt 26 = .ok (.ireturn, 1) := by decide +kernel
theorem dX7_inviteAt_27 : decode cX7_inviteAt 27 = .ok (.aload_n 0, 1) := by decide +kernel
theorem dX7_inviteAt_28 : decode cX7_inviteAt 28 = .ok (.getfield 64, 3) := by decide +kernel
theorem dX7_inviteAt_31 : decode cX7_inviteAt 31 = .ok (.aload_n 0, 1) := by decide +kernel
theorem dX7_inviteAt_32 : decode cX7_inviteAt 32 = .ok (.getfield 27, 3) := by decide +kernel
theorem dX7_inviteAt_35 : decode cX7_inviteAt 35 = .ok (.iload_n 1, 1) := by decide +kernel
theorem dX7_inviteAt_36 : decode cX7_inviteAt 36 = .ok (.iload_n 2, 1) := by decide +kernel
theorem dX7_inviteAt_37 : decode cX7_inviteAt 37 = .ok (.invokevirtual 195, 3) := by decide +kernel
theorem dX7_inviteAt_40 : decode cX7_inviteAt 40 = .ok (.aload_n 0, 1) := by decide +kernel
theorem dX7_inviteAt_41 : decode cX7_inviteAt 41 = .ok (.getfield 64, 3) := by decide +kernel
theorem dX7_inviteAt_44 : decode cX7_inviteAt 44 = .ok (.iload_n 2, 1) := by decide +kernel
theorem dX7_inviteAt_45 : decode cX7_inviteAt 45 = .ok (.iload_n 3, 1) := by decide +kernel
theorem dX7_inviteAt_46 : decode cX7_inviteAt 46 = .ok (.aload_n 0, 1) := by decide +kernel
theorem dX7_inviteAt_47 : decode cX7_inviteAt 47 = .ok (.iload_n 1, 1) := by decide +kernel
theorem dX7_inviteAt_48 : decode cX7_inviteAt 48 = .ok (.invokevirtual 199, 3) := by decide +kernel
theorem dX7_inviteAt_51 : decode cX7_inviteAt 51 = .ok (.invokevirtual 205, 3) := by decide +kernel
theorem dX7_inviteAt_54 : decode cX7_inviteAt 54 = .ok (.ireturn, 1) := by decide +kernel
theorem dX7_see_0 : decode cX7_see 0 = .ok (.iload_n 1, 1) := by decide +kernel
theorem dX7_see_1 : decode cX7_see 1 = .ok (.ifCond .lt 17, 3) := by decide +kernel
theorem dX7_see_4 : decode cX7_see 4 = .ok (.iload_n 1, 1) := by decide +kernel
theorem dX7_see_5 : decode cX7_see 5 = .ok (.iconst 4, 1) := by decide +kernel
theorem dX7_see_6 : decode cX7_see 6 = .ok (.if_icmp .ge 12, 3) := by decide +kernel
theorem dX7_see_9 : decode cX7_see 9 = .ok (.iload_n 2, 1) := by decide +kernel
theorem dX7_see_10 : decode cX7_see 10 = .ok (.ifCond .lt 8, 3) := by decide +kernel
theorem dX7_see_13 : decode cX7_see 13 = .ok (.iload_n 2, 1) := by decide +kernel
theorem dX7_see_14 : decode cX7_see 14 = .ok (.iconst 5, 1) := by decide +kernel
theorem dX7_see_15 : decode cX7_see 15 = .ok (.if_icmp .le 6, 3) := by decide +kernel
theorem dX7_see_18 : decode cX7_see 18 = .ok (.bipush (-2), 2) := by decide +kernel
theorem dX7_see_20 : decode cX7_see 20 = .ok (.ireturn, 1) := by decide +kernel
theorem dX7_see_21 : decode cX7_see 21 = .ok (.aload_n 0, 1) := by decide +kernel
theorem dX7_see_22 : decode cX7_see 22 = .ok (.getfield 57, 3) := by decide +kernel
theorem dX7_see_25 : decode cX7_see 25 = .ok (.getfield 209, 3) := by decide +kernel
theorem dX7_see_28 : decode cX7_see 28 = .ok (.iload_n 1, 1) := by decide +kernel
theorem dX7_see_29 : decode cX7_see 29 = .ok (.iaload, 1) := by decide +kernel
theorem dX7_see_30 : decode cX7_see 30 = .ok (.istore_n 3, 1) := by decide +kernel
theorem dX7_see_31 : decode cX7_see 31 = .ok (.aload_n 0, 1) := by decide +kernel
theorem dX7_see_32 : decode cX7_see 32 = .ok (.getfield 57, 3) := by decide +kernel
theorem dX7_see_35 : decode cX7_see 35 = .ok (.getfield 209, 3) := by decide +kernel
theorem dX7_see_38 : decode cX7_see 38 = .ok (.iload_n 1, 1) := by decide +kernel
theorem dX7_see_39 : decode cX7_see 39 = .ok (.iload_n 2, 1) := by decide +kernel
theorem dX7_see_40 : decode cX7_see 40 = .ok (.iastore, 1) := by decide +kernel
theorem dX7_see_41 : decode cX7_see 41 = .ok (.iload_n 3, 1) := by decide +kernel
theorem dX7_see_42 : decode cX7_see 42 = .ok (.ireturn, 1) := by decide +kernel
set_option maxRecDepth 20000 in
theorem ggX7_unsee_X3_toldColours : GoodIn wsX7_unsee wsX3_toldColours := goodIn_r _ [6, 7, 24] (by decide +kernel) (by decide +kernel)
set_option maxRecDepth 20000 in
theorem gX7_unsee_X3_toldColours : GoodIn wsX7_unsee (wsV RX7 212 RX3 yX3_toldColours wsX3_toldColours) := goodIn_app (goodIn_of _ (by decide +kernel)) ggX7_unsee_X3_toldColours
set_option maxRecDepth 20000 in
theorem ggX7_unsee_X3_forget : GoodIn wsX7_unsee wsX3_forget := goodIn_r _ [11, 7, 24] (by decide +kernel) (by decide +kernel)
set_option maxRecDepth 20000 in
theorem gX7_unsee_X3_forget : GoodIn wsX7_unsee (wsV RX7 215 RX3 yX3_forget wsX3_forget) := goodIn_app (goodIn_of _ (by decide +kernel)) ggX7_unsee_X3_forget
theorem dX7_unsee_0 : decode cX7_unsee 0 = .ok (.aload_n 0, 1) := by decide +kernel
theorem dX7_unsee_1 : decode cX7_unsee 1 = .ok (.getfield 57, 3) := by decide +kernel
theorem dX7_unsee_4 : decode cX7_unsee 4 = .ok (.invokevirtual 212, 3) := by decide +kernel
theorem dX7_unsee_7 : decode cX7_unsee 7 = .ok (.istore_n 1, 1) := by decide +kernel
theorem dX7_unsee_8 : decode cX7_unsee 8 = .ok (.aload_n 0, 1) := by decide +kernel
theorem dX7_unsee_9 : decode cX7_unsee 9 = .ok (.getfield 57, 3) := by decide +kernel
theorem dX7_unsee_12 : decode cX7_unsee 12 = .ok (.invokevirtual 215, 3) := by decide +kernel
theorem dX7_unsee_15 : decode cX7_unsee 15 = .ok (.iload_n 1, 1) := by decide +kernel
theorem dX7_unsee_16 : decode cX7_unsee 16 = .ok (.ireturn, 1) := by decide +kernel
set_option maxRecDepth 20000 in
theorem ggX7_who_X3_setsThatFit : GoodIn wsX7_who wsX3_setsThatFit := goodIn_r _ [7, 8, 9, 10, 11, 12, 13, 14, 15, 16, 6, 17, 18, 19, 20, 21, 22, 23, 44, 45, 46, 47, 48, 49, 50, 51, 52, 53] (by decide +kernel) (by decide +kernel)
set_option maxRecDepth 20000 in
theorem gX7_who_X3_setsThatFit : GoodIn wsX7_who (wsV RX7 218 RX3 yX3_setsThatFit wsX3_setsThatFit) := goodIn_app (goodIn_of _ (by decide +kernel)) ggX7_who_X3_setsThatFit
set_option maxRecDepth 20000 in
theorem ggX7_who_X3_surelyAway : GoodIn wsX7_who wsX3_surelyAway := goodIn_r _ [27, 8, 9, 10, 11, 12, 13, 14, 15, 16, 6, 17, 18, 19, 20, 21, 22, 23, 44, 45, 46, 47, 48, 49, 50, 51, 52, 53] (by decide +kernel) (by decide +kernel)
set_option maxRecDepth 20000 in
theorem gX7_who_X3_surelyAway : GoodIn wsX7_who (wsV RX7 222 RX3 yX3_surelyAway wsX3_surelyAway) := goodIn_app (goodIn_of _ (by decide +kernel)) ggX7_who_X3_surelyAway
set_option maxRecDepth 20000 in
theorem ggX7_who_X3_surelyCame : GoodIn wsX7_who wsX3_surelyCame := goodIn_r _ [31, 8, 9, 10, 11, 12, 13, 14, 15, 16, 6, 17, 18, 19, 20, 21, 22, 23, 44, 45, 46, 47, 48, 49, 50, 51, 52, 53] (by decide +kernel) (by decide +kernel)
set_option maxRecDepth 20000 in
theorem gX7_who_X3_surelyCame : GoodIn wsX7_who (wsV RX7 225 RX3 yX3_surelyCame wsX3_surelyCame) := goodIn_app (goodIn_of _ (by decide +kernel)) ggX7_who_X3_surelyCame
theorem dX7_who_0 : decode cX7_who 0 = .ok (.iload_n 1, 1) := by decide +kernel
theorem dX7_who_1 : decode cX7_who 1 = .ok (.tableswitch 63 0 2 #[27, 39, 51], 27) := by decide +kernel
theorem dX7_who_28 : decode cX7_who 28 = .ok (.aload_n 0, 1) := by decide +kernel
theorem dX7_who_29 : decode cX7_who 29 = .ok (.getfield 57, 3) := by decide +kernel
theorem dX7_who_32 : decode cX7_who 32 = .ok (.aload_n 0, 1) := by decide +kernel
theorem dX7_who_33 : decode cX7_who 33 = .ok (.getfield 27, 3) := by decide +kernel
theorem dX7_who_36 : decode cX7_who 36 = .ok (.invokevirtual 218, 3) := by decide +kernel
theorem dX7_who_39 : decode cX7_who 39 = .ok (.ireturn, 1) := by decide +kernel
theorem dX7_who_40 : decode cX7_who 40 = .ok (.aload_n 0, 1) := by decide +kernel
theorem dX7_who_41 : decode cX7_who 41 = .ok (.getfield 57, 3) := by decide +kernel
theorem dX7_who_44 : decode cX7_who 44 = .ok (.aload_n 0, 1) := by decide +kernel
theorem dX7_who_45 : decode cX7_who 45 = .ok (.getfield 27, 3) := by decide +kernel
theorem dX7_who_48 : decode cX7_who 48 = .ok (.invokevirtual 222, 3) := by decide +kernel
theorem dX7_who_51 : decode cX7_who 51 = .ok (.ireturn, 1) := by decide +kernel
theorem dX7_who_52 : decode cX7_who 52 = .ok (.aload_n 0, 1) := by decide +kernel
theorem dX7_who_53 : decode cX7_who 53 = .ok (.getfield 57, 3) := by decide +kernel
theorem dX7_who_56 : decode cX7_who 56 = .ok (.aload_n 0, 1) := by decide +kernel
theorem dX7_who_57 : decode cX7_who 57 = .ok (.getfield 27, 3) := by decide +kernel
theorem dX7_who_60 : decode cX7_who 60 = .ok (.invokevirtual 225, 3) := by decide +kernel
theorem dX7_who_63 : decode cX7_who 63 = .ok (.ireturn, 1) := by decide +kernel
theorem dX7_who_64 : decode cX7_who 64 = .ok (.bipush (-2), 2) := by decide +kernel
theorem dX7_who_66 : decode cX7_who 66 = .ok (.ireturn, 1) := by decide +kernel
set_option maxRecDepth 20000 in
theorem ggX7_luck_X4_hasRoom : GoodIn wsX7_luck wsX4_hasRoom := goodIn_r _ [9, 10, 110, 111, 112, 113, 114, 115, 116, 117, 118] (by decide +kernel) (by decide +kernel)
set_option maxRecDepth 20000 in
theorem gX7_luck_X4_hasRoom : GoodIn wsX7_luck (wsV RX7 97 RX4 yX4_hasRoom wsX4_hasRoom) := goodIn_app (goodIn_of _ (by decide +kernel)) ggX7_luck_X4_hasRoom
set_option maxRecDepth 20000 in
theorem ggX7_luck_X7_standOf : GoodIn wsX7_luck wsX7_standOf := goodIn_r _ [15, 16, 17, 18, 19, 20, 21, 22, 23, 24, 25, 26, 27, 28, 29, 98, 99, 100, 101, 102, 103, 104, 105, 106, 107, 108, 109, 119] (by decide +kernel) (by decide +kernel)
set_option maxRecDepth 20000 in
theorem gX7_luck_X7_standOf : GoodIn wsX7_luck (wsV RX7 199 RX7 yX7_standOf wsX7_standOf) := goodIn_app (goodIn_of _ (by decide +kernel)) ggX7_luck_X7_standOf
set_option maxRecDepth 20000 in
theorem ggX7_luck_X2_reckon : GoodIn wsX7_luck wsX2_reckon := goodIn_r _ [34, 35, 36, 37, 38, 39, 40, 8, 41, 42, 43, 6, 7, 9, 10, 44, 45, 46, 33, 47, 48, 49, 50, 51, 52, 53, 54, 55, 56, 57, 58, 59, 60, 61, 62, 63, 64, 65, 66, 67, 68, 69, 70, 14, 71, 72, 73, 74, 75, 76, 77, 78, 79, 80, 81, 82, 120, 121, 122, 123, 124, 125, 110, 111, 112, 113, 114, 115, 116, 117, 118] (by decide +kernel) (by decide +kernel)
set_option maxRecDepth 20000 in
theorem gX7_luck_X2_reckon : GoodIn wsX7_luck (wsV RX7 232 RX2 yX2_reckon wsX2_reckon) := goodIn_app (goodIn_of _ (by decide +kernel)) ggX7_luck_X2_reckon
set_option maxRecDepth 20000 in
theorem ggX7_luck_X2_above : GoodIn wsX7_luck wsX2_above := goodIn_r _ [86, 37, 87, 88, 89, 33, 90, 36, 91, 92, 74, 93, 120, 121, 122, 123, 124, 125] (by decide +kernel) (by decide +kernel)
set_option maxRecDepth 20000 in
theorem gX7_luck_X2_above : GoodIn wsX7_luck (wsV RX7 236 RX2 yX2_above wsX2_above) := goodIn_app (goodIn_of _ (by decide +kernel)) ggX7_luck_X2_above
set_option maxRecDepth 20000 in
theorem ggX7_luck_X2_below : GoodIn wsX7_luck wsX2_below := goodIn_r _ [97, 36, 87, 88, 89, 33, 90, 37, 91, 92, 74, 93, 120, 121, 122, 123, 124, 125] (by decide +kernel) (by decide +kernel)
set_option maxRecDepth 20000 in
theorem gX7_luck_X2_below : GoodIn wsX7_luck (wsV RX7 240 RX2 yX2_below wsX2_below) := goodIn_app (goodIn_of _ (by decide +kernel)) ggX7_luck_X2_below
theorem dX7_luck_0 : decode cX7_luck 0 = .ok (.aload_n 0, 1) := by decide +kernel
theorem dX7_luck_1 : decode cX7_luck 1 = .ok (.getfield 27, 3) := by decide +kernel
theorem dX7_luck_4 : decode cX7_luck 4 = .ok (.iload_n 1, 1) := by decide +kernel
theorem dX7_luck_5 : decode cX7_luck 5 = .ok (.invokevirtual 97, 3) := by decide +kernel
theorem dX7_luck_8 : decode cX7_luck 8 = .ok (.ifCond .ne 7, 3) := by decide +kernel
theorem dX7_luck_11 : decode cX7_luck 11 = .ok (.ldc2_w 228, 3) := by decide +kernel
theorem dX7_luck_14 : decode cX7_luck 14 = .ok (.lreturn, 1) := by decide +kernel
theorem dX7_luck_15 : decode cX7_luck 15 = .ok (.iload_n 2, 1) := by decide +kernel
theorem dX7_luck_16 : decode cX7_luck 16 = .ok (.ifCond .lt 8, 3) := by decide +kernel
theorem dX7_luck_19 : decode cX7_luck 19 = .ok (.iload_n 2, 1) := by decide +kernel
theorem dX7_luck_20 : decode cX7_luck 20 = .ok (.iconst 3, 1) := by decide +kernel
theorem dX7_luck_21 : decode cX7_luck 21 = .ok (.if_icmp .le 7, 3) := by decide +kernel
theorem dX7_luck_24 : decode cX7_luck 24 = .ok (.ldc2_w 230, 3) := by decide +kernel
theorem dX7_luck_27 : decode cX7_luck 27 = .ok (.lreturn, 1) := by decide +kernel
theorem dX7_luck_28 : decode cX7_luck 28 = .ok (.aload_n 0, 1) := by decide +kernel
theorem dX7_luck_29 : decode cX7_luck 29 = .ok (.getfield 71, 3) := by decide +kernel
theorem dX7_luck_32 : decode cX7_luck 32 = .ok (.aload_n 0, 1) := by decide +kernel
theorem dX7_luck_33 : decode cX7_luck 33 = .ok (.getfield 27, 3) := by decide +kernel
theorem dX7_luck_36 : decode cX7_luck 36 = .ok (.iload_n 1, 1) := by decide +kernel
theorem dX7_luck_37 : decode cX7_luck 37 = .ok (.iload_n 2, 1) := by decide +kernel
theorem dX7_luck_38 : decode cX7_luck 38 = .ok (.aload_n 0, 1) := by decide +kernel
theorem dX7_luck_39 : decode cX7_luck 39 = .ok (.iload_n 1, 1) := by decide +kernel
theorem dX7_luck_40 : decode cX7_luck 40 = .ok (.invokevirtual 199, 3) := by decide +kernel
theorem dX7_luck_43 : decode cX7_luck 43 = .ok (.invokevirtual 232, 3) := by decide +kernel
theorem dX7_luck_46 : decode cX7_luck 46 = .ok (.iload_n 3, 1) := by decide +kernel
theorem dX7_luck_47 : decode cX7_luck 47 = .ok (.ifCond .eq 13, 3) := by decide +kernel
theorem dX7_luck_50 : decode cX7_luck 50 = .ok (.aload_n 0, 1) := by decide +kernel
theorem dX7_luck_51 : decode cX7_luck 51 = .ok (.getfield 71, 3) := by decide +kernel
theorem dX7_luck_54 : decode cX7_luck 54 = .ok (.invokevirtual 236, 3) := by decide +kernel
theorem dX7_luck_57 : decode cX7_luck 57 = .ok (.goto 10, 3) := by decide +kernel
theorem dX7_luck_60 : decode cX7_luck 60 = .ok (.aload_n 0, 1) := by decide +kernel
theorem dX7_luck_61 : decode cX7_luck 61 = .ok (.getfield 71, 3) := by decide +kernel
theorem dX7_luck_64 : decode cX7_luck 64 = .ok (.invokevirtual 240, 3) := by decide +kernel
theorem dX7_luck_67 : decode cX7_luck 67 = .ok (.lreturn, 1) := by decide +kernel
theorem dX7_seed_0 : decode cX7_seed 0 = .ok (.aload_n 0, 1) := by decide +kernel
theorem dX7_seed_1 : decode cX7_seed 1 = .ok (.getfield 75, 3) := by decide +kernel
theorem dX7_seed_4 : decode cX7_seed 4 = .ok (.lstore_n 3, 1) := by decide +kernel
theorem dX7_seed_5 : decode cX7_seed 5 = .ok (.aload_n 0, 1) := by decide +kernel
theorem dX7_seed_6 : decode cX7_seed 6 = .ok (.lload_n 1, 1) := by decide +kernel
theorem dX7_seed_7 : decode cX7_seed 7 = .ok (.putfield 75, 3) := by decide +kernel
theorem dX7_seed_10 : decode cX7_seed 10 = .ok (.lload_n 3, 1) := by decide +kernel
theorem dX7_seed_11 : decode cX7_seed 11 = .ok (.lreturn, 1) := by decide +kernel
set_option maxRecDepth 20000 in
theorem ggX7_season_X4_hasRoom : GoodIn wsX7_season wsX4_hasRoom := goodIn_r _ [6, 7, 78, 79, 80, 81, 82, 83, 84, 85, 86] (by decide +kernel) (by decide +kernel)
set_option maxRecDepth 20000 in
theorem gX7_season_X4_hasRoom : GoodIn wsX7_season (wsV RX7 97 RX4 yX4_hasRoom wsX4_hasRoom) := goodIn_app (goodIn_of _ (by decide +kernel)) ggX7_season_X4_hasRoom
set_option maxRecDepth 20000 in
theorem ggX7_season_X4_membersOf : GoodIn wsX7_season wsX4_membersOf := goodIn_r _ [11, 12, 13, 78, 79, 80, 81, 82, 83, 84, 85, 86] (by decide +kernel) (by decide +kernel)
set_option maxRecDepth 20000 in
theorem gX7_season_X4_membersOf : GoodIn wsX7_season (wsV RX7 117 RX4 yX4_membersOf wsX4_membersOf) := goodIn_app (goodIn_of _ (by decide +kernel)) ggX7_season_X4_membersOf
set_option maxRecDepth 20000 in
theorem ggX7_season_X7_standOf : GoodIn wsX7_season wsX7_standOf := goodIn_r _ [18, 19, 20, 21, 22, 23, 24, 25, 26, 27, 28, 29, 30, 31, 32, 66, 67, 68, 69, 70, 71, 72, 73, 74, 75, 76, 77, 87] (by decide +kernel) (by decide +kernel)
set_option maxRecDepth 20000 in
theorem gX7_season_X7_standOf : GoodIn wsX7_season (wsV RX7 199 RX7 yX7_standOf wsX7_standOf) := goodIn_app (goodIn_of _ (by decide +kernel)) ggX7_season_X7_standOf
set_option maxRecDepth 20000 in
theorem ggX7_season_X7_drawAway : GoodIn wsX7_season wsX7_drawAway := goodIn_r _ [36, 1, 37, 38, 39, 40, 41, 42, 66, 67, 68, 69, 70, 71, 72, 73, 74, 75, 76, 77, 78, 79, 80, 81, 82, 83, 84, 85, 86] (by decide +kernel) (by decide +kernel)
set_option maxRecDepth 20000 in
theorem gX7_season_X7_drawAway : GoodIn wsX7_season (wsV RX7 243 RX7 yX7_drawAway wsX7_drawAway) := goodIn_app (goodIn_of _ (by decide +kernel)) ggX7_season_X7_drawAway
set_option maxRecDepth 20000 in
theorem ggX7_season_X4_needsOf : GoodIn wsX7_season wsX4_needsOf := goodIn_r _ [46, 47, 48, 3, 4, 5, 6, 7, 78, 79, 80, 81, 82, 83, 84, 85, 86] (by decide +kernel) (by decide +kernel)
set_option maxRecDepth 20000 in
theorem gX7_season_X4_needsOf : GoodIn wsX7_season (wsV RX7 101 RX4 yX4_needsOf wsX4_needsOf) := goodIn_app (goodIn_of _ (by decide +kernel)) ggX7_season_X4_needsOf
set_option maxRecDepth 20000 in
theorem ggX7_season_J6_bitCount_0f7a4 : GoodIn wsX7_season wsJ6_bitCount_0f7a4 := goodIn_r _ [52, 53, 54, 55] (by decide +kernel) (by decide +kernel)
set_option maxRecDepth 20000 in
theorem gX7_season_J6_bitCount_0f7a4 : GoodIn wsX7_season (va_wsS RX7 246 yJ6_bitCount_0f7a4 wsJ6_bitCount_0f7a4) := goodIn_app (goodIn_of _ (by decide +kernel)) ggX7_season_J6_bitCount_0f7a4
set_option maxRecDepth 20000 in
theorem ggX7_season_X7_behindDinner : GoodIn wsX7_season wsX7_behindDinner := goodIn_r _ [58, 59, 60, 61, 62, 63, 64, 65] (by decide +kernel) (by decide +kernel)
set_option maxRecDepth 20000 in
theorem gX7_season_X7_behindDinner : GoodIn wsX7_season (va_wsS RX7 251 yX7_behindDinner wsX7_behindDinner) := goodIn_app (goodIn_of _ (by decide +kernel)) ggX7_season_X7_behindDinner
theorem dX7_season_0 : decode cX7_season 0 = .ok (.aload_n 0, 1) := by decide +kernel
theorem dX7_season_1 : decode cX7_season 1 = .ok (.getfield 27, 3) := by decide +kernel
theorem dX7_season_4 : decode cX7_season 4 = .ok (.iload_n 1, 1) := by decide +kernel
theorem dX7_season_5 : decode cX7_season 5 = .ok (.invokevirtual 97, 3) := by decide +kernel
theorem dX7_season_8 : decode cX7_season 8 = .ok (.ifCond .ne 5, 3) := by decide +kernel
theorem dX7_season_11 : decode cX7_season 11 = .ok (.iconst (-1), 1) := by decide +kernel
theorem dX7_season_12 : decode cX7_season 12 = .ok (.ireturn, 1) := by decide +kernel
theorem dX7_season_13 : decode cX7_season 13 = .ok (.iload_n 2, 1) := by decide +kernel
theorem dX7_season_14 : decode cX7_season 14 = .ok (.iconst 1, 1) := by decide +kernel
theorem dX7_season_15 : decode cX7_season 15 = .ok (.if_icmp .lt 9, 3) := by decide +kernel
theorem dX7_season_18 : decode cX7_season 18 = .ok (.iload_n 2, 1) := by decide +kernel
theorem dX7_season_19 : decode cX7_season 19 = .ok (.bipush 30, 2) := by decide +kernel
theorem dX7_season_21 : decode cX7_season 21 = .ok (.if_icmp .le 6, 3) := by decide +kernel
theorem dX7_season_24 : decode cX7_season 24 = .ok (.bipush (-2), 2) := by decide +kernel
theorem dX7_season_26 : decode cX7_season 26 = .ok (.ireturn, 1) := by decide +kernel
theorem dX7_season_27 : decode cX7_season 27 = .ok (.aload_n 0, 1) := by decide +kernel
theorem dX7_season_28 : decode cX7_season 28 = .ok (.getfield 27, 3) := by decide +kernel
theorem dX7_season_31 : decode cX7_season 31 = .ok (.iload_n 1, 1) := by decide +kernel
theorem dX7_season_32 : decode cX7_season 32 = .ok (.invokevirtual 117, 3) := by decide +kernel
theorem dX7_season_35 : decode cX7_season 35 = .ok (.istore_n 3, 1) := by decide +kernel
theorem dX7_season_36 : decode cX7_season 36 = .ok (.aload_n 0, 1) := by decide +kernel
theorem dX7_season_37 : decode cX7_season 37 = .ok (.iload_n 1, 1) := by decide +kernel
theorem dX7_season_38 : decode cX7_season 38 = .ok (.invokevirtual 199, 3) := by decide +kernel
theorem dX7_season_41 : decode cX7_season 41 = .ok (.istore 4, 2) := by decide +kernel
theorem dX7_season_43 : decode cX7_season 43 = .ok (.iconst 0, 1) := by decide +kernel
theorem dX7_season_44 : decode cX7_season 44 = .ok (.istore 5, 2) := by decide +kernel
theorem dX7_season_46 : decode cX7_season 46 = .ok (.iload 5, 2) := by decide +kernel
theorem dX7_season_48 : decode cX7_season 48 = .ok (.iload_n 2, 1) := by decide +kernel
theorem dX7_season_49 : decode cX7_season 49 = .ok (.if_icmp .ge 46, 3) := by decide +kernel
theorem dX7_season_52 : decode cX7_season 52 = .ok (.aload_n 0, 1) := by decide +kernel
theorem dX7_season_53 : decode cX7_season 53 = .ok (.invokevirtual 243, 3) := by decide +kernel
theorem dX7_season_56 : decode cX7_season 56 = .ok (.istore 6, 2) := by decide +kernel
theorem dX7_season_58 : decode cX7_season 58 = .ok (.iload 4, 2) := by decide +kernel
theorem dX7_season_60 : decode cX7_season 60 = .ok (.aload_n 0, 1) := by decide +kernel
theorem dX7_season_61 : decode cX7_season 61 = .ok (.getfield 27, 3) := by decide +kernel
theorem dX7_season_64 : decode cX7_season 64 = .ok (.iload_n 1, 1) := by decide +kernel
theorem dX7_season_65 : decode cX7_season 65 = .ok (.invokevirtual 101, 3) := by decide +kernel
theorem dX7_season_68 : decode cX7_season 68 = .ok (.iload 6, 2) := by decide +kernel
theorem dX7_season_70 : decode cX7_season 70 = .ok (.iload_n 3, 1) := by decide +kernel
theorem dX7_season_71 : decode cX7_season 71 = .ok (.iand, 1) := by decide +kernel
theorem dX7_season_72 : decode cX7_season 72 = .ok (.invokestatic 246, 3) := by decide +kernel
theorem dX7_season_75 : decode cX7_season 75 = .ok (.iload_n 3, 1) := by decide +kernel
theorem dX7_season_76 : decode cX7_season 76 = .ok (.iload 6, 2) := by decide +kernel
theorem dX7_season_78 : decode cX7_season 78 = .ok (.iconst (-1), 1) := by decide +kernel
theorem dX7_season_79 : decode cX7_season 79 = .ok (.ixor, 1) := by decide +kernel
theorem dX7_season_80 : decode cX7_season 80 = .ok (.iand, 1) := by decide +kernel
theorem dX7_season_81 : decode cX7_season 81 = .ok (.invokestatic 246, 3) := by decide +kernel
theorem dX7_season_84 : decode cX7_season 84 = .ok (.invokestatic 251, 3) := by decide +kernel
theorem dX7_season_87 : decode cX7_season 87 = .ok (.istore 4, 2) := by decide +kernel
theorem dX7_season_89 : decode cX7_season 89 = .ok (.iinc 5 1, 3) := by decide +kernel
theorem dX7_season_92 : decode cX7_season 92 = .ok (.goto (-46), 3) := by decide +kernel
theorem dX7_season_95 : decode cX7_season 95 = .ok (.iload 4, 2) := by decide +kernel
theorem dX7_season_97 : decode cX7_season 97 = .ok (.iconst 4, 1) := by decide +kernel
theorem dX7_season_98 : decode cX7_season 98 = .ok (.idiv, 1) := by decide +kernel
theorem dX7_season_99 : decode cX7_season 99 = .ok (.ireturn, 1) := by decide +kernel
set_option maxRecDepth 20000 in
theorem ggX7_keep_X1_copyTo : GoodIn wsX7_keep wsX1_copyTo := goodIn_r _ [8, 9, 10, 11, 12, 13, 30] (by decide +kernel) (by decide +kernel)
set_option maxRecDepth 20000 in
theorem gX7_keep_X1_copyTo : GoodIn wsX7_keep (wsV RX7 255 RX1 yX1_copyTo wsX1_copyTo) := goodIn_app (goodIn_of _ (by decide +kernel)) ggX7_keep_X1_copyTo
set_option maxRecDepth 20000 in
theorem ggX7_keep_X1_dinners : GoodIn wsX7_keep wsX1_dinners := goodIn_r _ [17, 9, 30] (by decide +kernel) (by decide +kernel)
set_option maxRecDepth 20000 in
theorem gX7_keep_X1_dinners : GoodIn wsX7_keep (wsV RX7 259 RX1 yX1_dinners wsX1_dinners) := goodIn_app (goodIn_of _ (by decide +kernel)) ggX7_keep_X1_dinners
theorem dX7_keep_0 : decode cX7_keep 0 = .ok (.iload_n 1, 1) := by decide +kernel
theorem dX7_keep_1 : decode cX7_keep 1 = .ok (.ifCond .lt 8, 3) := by decide +kernel
theorem dX7_keep_4 : decode cX7_keep 4 = .ok (.iload_n 1, 1) := by decide +kernel
theorem dX7_keep_5 : decode cX7_keep 5 = .ok (.iconst 2, 1) := by decide +kernel
theorem dX7_keep_6 : decode cX7_keep 6 = .ok (.if_icmp .lt 5, 3) := by decide +kernel
theorem dX7_keep_9 : decode cX7_keep 9 = .ok (.iconst (-1), 1) := by decide +kernel
theorem dX7_keep_10 : decode cX7_keep 10 = .ok (.ireturn, 1) := by decide +kernel
theorem dX7_keep_11 : decode cX7_keep 11 = .ok (.aload_n 0, 1) := by decide +kernel
theorem dX7_keep_12 : decode cX7_keep 12 = .ok (.getfield 34, 3) := by decide +kernel
theorem dX7_keep_15 : decode cX7_keep 15 = .ok (.aload_n 0, 1) := by decide +kernel
theorem dX7_keep_16 : decode cX7_keep 16 = .ok (.getfield 47, 3) := by decide +kernel
theorem dX7_keep_19 : decode cX7_keep 19 = .ok (.iload_n 1, 1) := by decide +kernel
theorem dX7_keep_20 : decode cX7_keep 20 = .ok (.aaload, 1) := by decide +kernel
theorem dX7_keep_21 : decode cX7_keep 21 = .ok (.invokevirtual 255, 3) := by decide +kernel
theorem dX7_keep_24 : decode cX7_keep 24 = .ok (.aload_n 0, 1) := by decide +kernel
theorem dX7_keep_25 : decode cX7_keep 25 = .ok (.getfield 50, 3) := by decide +kernel
theorem dX7_keep_28 : decode cX7_keep 28 = .ok (.iload_n 1, 1) := by decide +kernel
theorem dX7_keep_29 : decode cX7_keep 29 = .ok (.iconst 1, 1) := by decide +kernel
theorem dX7_keep_30 : decode cX7_keep 30 = .ok (.bastore, 1) := by decide +kernel
theorem dX7_keep_31 : decode cX7_keep 31 = .ok (.aload_n 0, 1) := by decide +kernel
theorem dX7_keep_32 : decode cX7_keep 32 = .ok (.getfield 34, 3) := by decide +kernel
theorem dX7_keep_35 : decode cX7_keep 35 = .ok (.invokevirtual 259, 3) := by decide +kernel
theorem dX7_keep_38 : decode cX7_keep 38 = .ok (.ireturn, 1) := by decide +kernel
set_option maxRecDepth 20000 in
theorem ggX7_again_X1_copyFrom : GoodIn wsX7_again wsX1_copyFrom := goodIn_r _ [9, 10, 11, 12, 13, 14, 37] (by decide +kernel) (by decide +kernel)
set_option maxRecDepth 20000 in
theorem gX7_again_X1_copyFrom : GoodIn wsX7_again (wsV RX7 262 RX1 yX1_copyFrom wsX1_copyFrom) := goodIn_app (goodIn_of _ (by decide +kernel)) ggX7_again_X1_copyFrom
set_option maxRecDepth 20000 in
theorem ggX7_again_X0_clear : GoodIn wsX7_again wsX0_clear := goodIn_r _ [19, 20, 38, 39, 40] (by decide +kernel) (by decide +kernel)
set_option maxRecDepth 20000 in
theorem gX7_again_X0_clear : GoodIn wsX7_again (wsV RX7 90 RX0 yX0_clear wsX0_clear) := goodIn_app (goodIn_of _ (by decide +kernel)) ggX7_again_X0_clear
set_option maxRecDepth 20000 in
theorem ggX7_again_X1_dinners : GoodIn wsX7_again wsX1_dinners := goodIn_r _ [24, 10, 37] (by decide +kernel) (by decide +kernel)
set_option maxRecDepth 20000 in
theorem gX7_again_X1_dinners : GoodIn wsX7_again (wsV RX7 259 RX1 yX1_dinners wsX1_dinners) := goodIn_app (goodIn_of _ (by decide +kernel)) ggX7_again_X1_dinners
theorem dX7_again_0 : decode cX7_again 0 = .ok (.iload_n 1, 1) := by decide +kernel
theorem dX7_again_1 : decode cX7_again 1 = .ok (.ifCond .lt 8, 3) := by decide +kernel
theorem dX7_again_4 : decode cX7_again 4 = .ok (.iload_n 1, 1) := by decide +kernel
theorem dX7_again_5 : decode cX7_again 5 = .ok (.iconst 2, 1) := by decide +kernel
theorem dX7_again_6 : decode cX7_again 6 = .ok (.if_icmp .lt 5, 3) := by decide +kernel
theorem dX7_again_9 : decode cX7_again 9 = .ok (.iconst (-1), 1) := by decide +kernel
theorem dX7_again_10 : decode cX7_again 10 = .ok (.ireturn, 1) := by decide +kernel
theorem dX7_again_11 : decode cX7_again 11 = .ok (.aload_n 0, 1) := by decide +kernel
theorem dX7_again_12 : decode cX7_again 12 = .ok (.getfield 50, 3) := by decide +kernel
theorem dX7_again_15 : decode cX7_again 15 = .ok (.iload_n 1, 1) := by decide +kernel
theorem dX7_again_16 : decode cX7_again 16 = .ok (.baload, 1) := by decide +kernel
theorem dX7_again_17 : decode cX7_again 17 = .ok (.ifCond .ne 6, 3) := by decide +kernel
theorem dX7_again_20 : decode cX7_again 20 = .ok (.bipush (-3), 2) := by decide +kernel
theorem dX7_again_22 : decode cX7_again 22 = .ok (.ireturn, 1) := by decide +kernel
theorem dX7_again_23 : decode cX7_again 23 = .ok (.aload_n 0, 1) := by decide +kernel
theorem dX7_again_24 : decode cX7_again 24 = .ok (.getfield 34, 3) := by decide +kernel
theorem dX7_again_27 : decode cX7_again 27 = .ok (.aload_n 0, 1) := by decide +kernel
theorem dX7_again_28 : decode cX7_again 28 = .ok (.getfield 47, 3) := by decide +kernel
theorem dX7_again_31 : decode cX7_again 31 = .ok (.iload_n 1, 1) := by decide +kernel
theorem dX7_again_32 : decode cX7_again 32 = .ok (.aaload, 1) := by decide +kernel
theorem dX7_again_33 : decode cX7_again 33 = .ok (.invokevirtual 262, 3) := by decide +kernel
theorem dX7_again_36 : decode cX7_again 36 = .ok (.aload_n 0, 1) := by decide +kernel
theorem dX7_again_37 : decode cX7_again 37 = .ok (.getfield 41, 3) := by decide +kernel
theorem dX7_again_40 : decode cX7_again 40 = .ok (.invokevirtual 90, 3) := by decide +kernel
theorem dX7_again_43 : decode cX7_again 43 = .ok (.aload_n 0, 1) := by decide +kernel
theorem dX7_again_44 : decode cX7_again 44 = .ok (.getfield 34, 3) := by decide +kernel
theorem dX7_again_47 : decode cX7_again 47 = .ok (.invokevirtual 259, 3) := by decide +kernel
theorem dX7_again_50 : decode cX7_again 50 = .ok (.ireturn, 1) := by decide +kernel
set_option maxRecDepth 20000 in
theorem ggX7_count_X1_dinners : GoodIn wsX7_count wsX1_dinners := goodIn_r _ [14, 15, 77] (by decide +kernel) (by decide +kernel)
set_option maxRecDepth 20000 in
theorem gX7_count_X1_dinners : GoodIn wsX7_count (wsV RX7 259 RX1 yX1_dinners wsX1_dinners) := goodIn_app (goodIn_of _ (by decide +kernel)) ggX7_count_X1_dinners
set_option maxRecDepth 20000 in
theorem ggX7_count_X7_doneRooms : GoodIn wsX7_count wsX7_doneRooms := goodIn_r _ [20, 2, 3, 21, 22, 23, 19, 24, 5, 25, 26, 27, 13, 28, 15, 29, 30, 31, 32, 33, 34, 35, 36, 37, 38, 39, 40, 41, 42, 53, 54, 55, 56, 57, 58, 59, 60, 61, 62, 63, 64, 65, 66, 67, 68, 69, 70, 71, 72, 73, 77] (by decide +kernel) (by decide +kernel)
set_option maxRecDepth 20000 in
theorem gX7_count_X7_doneRooms : GoodIn wsX7_count (wsV RX7 265 RX7 yX7_doneRooms wsX7_doneRooms) := goodIn_app (goodIn_of _ (by decide +kernel)) ggX7_count_X7_doneRooms
set_option maxRecDepth 20000 in
theorem ggX7_count_X7_knotsOfAll : GoodIn wsX7_count wsX7_knotsOfAll := goodIn_r _ [46, 2, 3, 5, 25, 26, 27, 13, 28, 15, 29, 30, 31, 53, 54, 55, 56, 57, 58, 59, 60, 61, 62, 63, 64, 65, 66, 67, 68, 69, 70, 71, 72, 73, 77] (by decide +kernel) (by decide +kernel)
set_option maxRecDepth 20000 in
theorem gX7_count_X7_knotsOfAll : GoodIn wsX7_count (wsV RX7 268 RX7 yX7_knotsOfAll wsX7_knotsOfAll) := goodIn_app (goodIn_of _ (by decide +kernel)) ggX7_count_X7_knotsOfAll
set_option maxRecDepth 20000 in
theorem ggX7_count_X3_toldColours : GoodIn wsX7_count wsX3_toldColours := goodIn_r _ [51, 52, 78] (by decide +kernel) (by decide +kernel)
set_option maxRecDepth 20000 in
theorem gX7_count_X3_toldColours : GoodIn wsX7_count (wsV RX7 212 RX3 yX3_toldColours wsX3_toldColours) := goodIn_app (goodIn_of _ (by decide +kernel)) ggX7_count_X3_toldColours
theorem dX7_count_0 : decode cX7_count 0 = .ok (.iload_n 1, 1) := by decide +kernel
theorem dX7_count_1 : decode cX7_count 1 = .ok (.tableswitch 114 0 8 #[51, 56, 64, 72, 80, 85, 90, 98, 106], 51) := by decide +kernel
theorem dX7_count_52 : decode cX7_count 52 = .ok (.aload_n 0, 1) := by decide +kernel
theorem dX7_count_53 : decode cX7_count 53 = .ok (.getfield 13, 3) := by decide +kernel
theorem dX7_count_56 : decode cX7_count 56 = .ok (.ireturn, 1) := by decide +kernel
theorem dX7_count_57 : decode cX7_count 57 = .ok (.aload_n 0, 1) := by decide +kernel
theorem dX7_count_58 : decode cX7_count 58 = .ok (.getfield 27, 3) := by decide +kernel
theorem dX7_count_61 : decode cX7_count 61 = .ok (.getfield 91, 3) := by decide +kernel
theorem dX7_count_64 : decode cX7_count 64 = .ok (.ireturn, 1) := by decide +kernel
theorem dX7_count_65 : decode cX7_count 65 = .ok (.aload_n 0, 1) := by decide +kernel
theorem dX7_count_66 : decode cX7_count 66 = .ok (.getfield 27, 3) := by decide +kernel
theorem dX7_count_69 : decode cX7_count 69 = .ok (.getfield 94, 3) := by decide +kernel
theorem dX7_count_72 : decode cX7_count 72 = .ok (.ireturn, 1) := by decide +kernel
theorem dX7_count_73 : decode cX7_count 73 = .ok (.aload_n 0, 1) := by decide +kernel
theorem dX7_count_74 : decode cX7_count 74 = .ok (.getfield 34, 3) := by decide +kernel
theorem dX7_count_77 : decode cX7_count 77 = .ok (.invokevirtual 259, 3) := by decide +kernel
theorem dX7_count_80 : decode cX7_count 80 = .ok (.ireturn, 1) := by decide +kernel
theorem dX7_count_81 : decode cX7_count 81 = .ok (.aload_n 0, 1) := by decide +kernel
theorem dX7_count_82 : decode cX7_count 82 = .ok (.invokevirtual 265, 3) := by decide +kernel
theorem dX7_count_85 : decode cX7_count 85 = .ok (.ireturn, 1) := by decide +kernel
theorem dX7_count_86 : decode cX7_count 86 = .ok (.aload_n 0, 1) := by decide +kernel
theorem dX7_count_87 : decode cX7_count 87 = .ok (.invokevirtual 268, 3) := by decide +kernel
theorem dX7_count_90 : decode cX7_count 90 = .ok (.ireturn, 1) := by decide +kernel
theorem dX7_count_91 : decode cX7_count 91 = .ok (.aload_n 0, 1) := by decide +kernel
theorem dX7_count_92 : decode cX7_count 92 = .ok (.getfield 41, 3) := by decide +kernel
theorem dX7_count_95 : decode cX7_count 95 = .ok (.getfield 172, 3) := by decide +kernel
theorem dX7_count_98 : decode cX7_count 98 = .ok (.ireturn, 1) := by decide +kernel
theorem dX7_count_99 : decode cX7_count 99 = .ok (.aload_n 0, 1) := by decide +kernel
theorem dX7_count_100 : decode cX7_count 100 = .ok (.getfield 57, 3) := by decide +kernel
theorem dX7_count_103 : decode cX7_count 103 = .ok (.invokevirtual 212, 3) := by decide +kernel
theorem dX7_count_106 : decode cX7_count 106 = .ok (.ireturn, 1) := by decide +kernel
theorem dX7_count_107 : decode cX7_count 107 = .ok (.aload_n 0, 1) := by decide +kernel
theorem dX7_count_108 : decode cX7_count 108 = .ok (.getfield 27, 3) := by decide +kernel
theorem dX7_count_111 : decode cX7_count 111 = .ok (.getfield 271, 3) := by decide +kernel
theorem dX7_count_114 : decode cX7_count 114 = .ok (.ireturn, 1) := by decide +kernel
theorem dX7_count_115 : decode cX7_count 115 = .ok (.bipush (-2), 2) := by decide +kernel
theorem dX7_count_117 : decode cX7_count 117 = .ok (.ireturn, 1) := by decide +kernel
set_option maxRecDepth 20000 in
theorem ggX7_isDone_X1_knotsOf : GoodIn wsX7_isDone wsX1_knotsOf := goodIn_r _ [7, 8, 9, 10, 6, 11, 35] (by decide +kernel) (by decide +kernel)
set_option maxRecDepth 20000 in
theorem gX7_isDone_X1_knotsOf : GoodIn wsX7_isDone (wsV RX7 105 RX1 yX1_knotsOf wsX1_knotsOf) := goodIn_app (goodIn_of _ (by decide +kernel)) ggX7_isDone_X1_knotsOf
set_option maxRecDepth 20000 in
theorem ggX7_isDone_X4_needsOf : GoodIn wsX7_isDone wsX4_needsOf := goodIn_r _ [16, 17, 18, 19, 20, 15, 21, 22, 36, 37, 38, 39, 40, 41, 42, 43, 44] (by decide +kernel) (by decide +kernel)
set_option maxRecDepth 20000 in
theorem gX7_isDone_X4_needsOf : GoodIn wsX7_isDone (wsV RX7 101 RX4 yX4_needsOf wsX4_needsOf) := goodIn_app (goodIn_of _ (by decide +kernel)) ggX7_isDone_X4_needsOf
theorem dX7_isDone_0 : decode cX7_isDone 0 = .ok (.aload_n 0, 1) := by decide +kernel
theorem dX7_isDone_1 : decode cX7_isDone 1 = .ok (.getfield 34, 3) := by decide +kernel
theorem dX7_isDone_4 : decode cX7_isDone 4 = .ok (.iload_n 1, 1) := by decide +kernel
theorem dX7_isDone_5 : decode cX7_isDone 5 = .ok (.invokevirtual 105, 3) := by decide +kernel
theorem dX7_isDone_8 : decode cX7_isDone 8 = .ok (.aload_n 0, 1) := by decide +kernel
theorem dX7_isDone_9 : decode cX7_isDone 9 = .ok (.getfield 27, 3) := by decide +kernel
theorem dX7_isDone_12 : decode cX7_isDone 12 = .ok (.iload_n 1, 1) := by decide +kernel
theorem dX7_isDone_13 : decode cX7_isDone 13 = .ok (.invokevirtual 101, 3) := by decide +kernel
theorem dX7_isDone_16 : decode cX7_isDone 16 = .ok (.if_icmp .lt 7, 3) := by decide +kernel
theorem dX7_isDone_19 : decode cX7_isDone 19 = .ok (.iconst 1, 1) := by decide +kernel
theorem dX7_isDone_20 : decode cX7_isDone 20 = .ok (.goto 4, 3) := by decide +kernel
theorem dX7_isDone_23 : decode cX7_isDone 23 = .ok (.iconst 0, 1) := by decide +kernel
theorem dX7_isDone_24 : decode cX7_isDone 24 = .ok (.ireturn, 1) := by decide +kernel
set_option maxRecDepth 20000 in
theorem ggX7_doneRooms_X7_isDone : GoodIn wsX7_doneRooms wsX7_isDone := goodIn_r _ [7, 8, 1, 9, 10, 11, 12, 13, 14, 15, 16, 17, 18, 19, 20, 21, 22, 23, 24, 25, 26, 27, 28, 29, 30, 31, 32, 33, 34, 35, 36, 37, 38, 39, 40, 50, 41, 42, 43, 44, 45, 46, 47, 48, 49] (by decide +kernel) (by decide +kernel)
set_option maxRecDepth 20000 in
theorem gX7_doneRooms_X7_isDone : GoodIn wsX7_doneRooms (wsV RX7 111 RX7 yX7_isDone wsX7_isDone) := goodIn_app (goodIn_of _ (by decide +kernel)) ggX7_doneRooms_X7_isDone
theorem dX7_doneRooms_0 : decode cX7_doneRooms 0 = .ok (.iconst 0, 1) := by decide +kernel
theorem dX7_doneRooms_1 : decode cX7_doneRooms 1 = .ok (.istore_n 1, 1) := by decide +kernel
theorem dX7_doneRooms_2 : decode cX7_doneRooms 2 = .ok (.iconst 0, 1) := by decide +kernel
theorem dX7_doneRooms_3 : decode cX7_doneRooms 3 = .ok (.istore_n 2, 1) := by decide +kernel
theorem dX7_doneRooms_4 : decode cX7_doneRooms 4 = .ok (.iload_n 2, 1) := by decide +kernel
theorem dX7_doneRooms_5 : decode cX7_doneRooms 5 = .ok (.aload_n 0, 1) := by decide +kernel
theorem dX7_doneRooms_6 : decode cX7_doneRooms 6 = .ok (.getfield 27, 3) := by decide +kernel
theorem dX7_doneRooms_9 : decode cX7_doneRooms 9 = .ok (.getfield 91, 3) := by decide +kernel
theorem dX7_doneRooms_12 : decode cX7_doneRooms 12 = .ok (.if_icmp .ge 23, 3) := by decide +kernel
theorem dX7_doneRooms_15 : decode cX7_doneRooms 15 = .ok (.aload_n 0, 1) := by decide +kernel
theorem dX7_doneRooms_16 : decode cX7_doneRooms 16 = .ok (.iload_n 2, 1) := by decide +kernel
theorem dX7_doneRooms_17 : decode cX7_doneRooms 17 = .ok (.invokevirtual 111, 3) := by decide +kernel
theorem dX7_doneRooms_20 : decode cX7_doneRooms 20 = .ok (.ifCond .eq 9, 3) := by decide +kernel
theorem dX7_doneRooms_23 : decode cX7_doneRooms 23 = .ok (.iload_n 1, 1) := by decide +kernel
theorem dX7_doneRooms_24 : decode cX7_doneRooms 24 = .ok (.iconst 1, 1) := by decide +kernel
theorem dX7_doneRooms_25 : decode cX7_doneRooms 25 = .ok (.iload_n 2, 1) := by decide +kernel
theorem dX7_doneRooms_26 : decode cX7_doneRooms 26 = .ok (.ishl, 1) := by decide +kernel
theorem dX7_doneRooms_27 : decode cX7_doneRooms 27 = .ok (.ior, 1) := by decide +kernel
theorem dX7_doneRooms_28 : decode cX7_doneRooms 28 = .ok (.istore_n 1, 1) := by decide +kernel
theorem dX7_doneRooms_29 : decode cX7_doneRooms 29 = .ok (.iinc 2 1, 3) := by decide +kernel
theorem dX7_doneRooms_32 : decode cX7_doneRooms 32 = .ok (.goto (-28), 3) := by decide +kernel
theorem dX7_doneRooms_35 : decode cX7_doneRooms 35 = .ok (.iload_n 1, 1) := by decide +kernel
theorem dX7_doneRooms_36 : decode cX7_doneRooms 36 = .ok (.ireturn, 1) := by decide +kernel
set_option maxRecDepth 20000 in
theorem ggX7_knotsOfAll_X1_knotsOf : GoodIn wsX7_knotsOfAll wsX1_knotsOf := goodIn_r _ [8, 9, 10, 11, 7, 12, 34] (by decide +kernel) (by decide +kernel)
set_option maxRecDepth 20000 in
theorem gX7_knotsOfAll_X1_knotsOf : GoodIn wsX7_knotsOfAll (wsV RX7 105 RX1 yX1_knotsOf wsX1_knotsOf) := goodIn_app (goodIn_of _ (by decide +kernel)) ggX7_knotsOfAll_X1_knotsOf
theorem dX7_knotsOfAll_0 : decode cX7_knotsOfAll 0 = .ok (.iconst 0, 1) := by decide +kernel
theorem dX7_knotsOfAll_1 : decode cX7_knotsOfAll 1 = .ok (.istore_n 1, 1) := by decide +kernel
theorem dX7_knotsOfAll_2 : decode cX7_knotsOfAll 2 = .ok (.iconst 0, 1) := by decide +kernel
theorem dX7_knotsOfAll_3 : decode cX7_knotsOfAll 3 = .ok (.istore_n 2, 1) := by decide +kernel
theorem dX7_knotsOfAll_4 : decode cX7_knotsOfAll 4 = .ok (.iload_n 2, 1) := by decide +kernel
theorem dX7_knotsOfAll_5 : decode cX7_knotsOfAll 5 = .ok (.aload_n 0, 1) := by decide +kernel
theorem dX7_knotsOfAll_6 : decode cX7_knotsOfAll 6 = .ok (.getfield 27, 3) := by decide +kernel
theorem dX7_knotsOfAll_9 : decode cX7_knotsOfAll 9 = .ok (.getfield 91, 3) := by decide +kernel
theorem dX7_knotsOfAll_12 : decode cX7_knotsOfAll 12 = .ok (.if_icmp .ge 20, 3) := by decide +kernel
theorem dX7_knotsOfAll_15 : decode cX7_knotsOfAll 15 = .ok (.iload_n 1, 1) := by decide +kernel
theorem dX7_knotsOfAll_16 : decode cX7_knotsOfAll 16 = .ok (.aload_n 0, 1) := by decide +kernel
theorem dX7_knotsOfAll_17 : decode cX7_knotsOfAll 17 = .ok (.getfield 34, 3) := by decide +kernel
theorem dX7_knotsOfAll_20 : decode cX7_knotsOfAll 20 = .ok (.iload_n 2, 1) := by decide +kernel
theorem dX7_knotsOfAll_21 : decode cX7_knotsOfAll 21 = .ok (.invokevirtual 105, 3) := by decide +kernel
theorem dX7_knotsOfAll_24 : decode cX7_knotsOfAll 24 = .ok (.iadd, 1) := by decide +kernel
theorem dX7_knotsOfAll_25 : decode cX7_knotsOfAll 25 = .ok (.istore_n 1, 1) := by decide +kernel
theorem dX7_knotsOfAll_26 : decode cX7_knotsOfAll 26 = .ok (.iinc 2 1, 3) := by decide +kernel
theorem dX7_knotsOfAll_29 : decode cX7_knotsOfAll 29 = .ok (.goto (-25), 3) := by decide +kernel
theorem dX7_knotsOfAll_32 : decode cX7_knotsOfAll 32 = .ok (.iload_n 1, 1) := by decide +kernel
theorem dX7_knotsOfAll_33 : decode cX7_knotsOfAll 33 = .ok (.ireturn, 1) := by decide +kernel
set_option maxRecDepth 20000 in
theorem ggX7_weaveAll_X7_isDone : GoodIn wsX7_weaveAll wsX7_isDone := goodIn_r _ [9, 4, 1, 10, 11, 12, 13, 14, 15, 16, 17, 18, 19, 20, 21, 22, 23, 24, 25, 26, 27, 28, 29, 38, 39, 40, 41, 42, 43, 44, 45, 46, 47, 48, 49, 59, 50, 51, 52, 53, 54, 55, 56, 57, 58] (by decide +kernel) (by decide +kernel)
set_option maxRecDepth 20000 in
theorem gX7_weaveAll_X7_isDone : GoodIn wsX7_weaveAll (wsV RX7 111 RX7 yX7_isDone wsX7_isDone) := goodIn_app (goodIn_of _ (by decide +kernel)) ggX7_weaveAll_X7_isDone
set_option maxRecDepth 20000 in
theorem ggX7_weaveAll_X1_weave : GoodIn wsX7_weaveAll wsX1_weave := goodIn_r _ [33, 15, 34, 11, 12, 13, 14, 16, 17, 18, 35, 36, 37, 59] (by decide +kernel) (by decide +kernel)
set_option maxRecDepth 20000 in
theorem gX7_weaveAll_X1_weave : GoodIn wsX7_weaveAll (wsV RX7 274 RX1 yX1_weave wsX1_weave) := goodIn_app (goodIn_of _ (by decide +kernel)) ggX7_weaveAll_X1_weave
theorem dX7_weaveAll_0 : decode cX7_weaveAll 0 = .ok (.iconst 0, 1) := by decide +kernel
theorem dX7_weaveAll_1 : decode cX7_weaveAll 1 = .ok (.istore_n 3, 1) := by decide +kernel
theorem dX7_weaveAll_2 : decode cX7_weaveAll 2 = .ok (.iconst 0, 1) := by decide +kernel
theorem dX7_weaveAll_3 : decode cX7_weaveAll 3 = .ok (.istore 4, 2) := by decide +kernel
theorem dX7_weaveAll_5 : decode cX7_weaveAll 5 = .ok (.iload 4, 2) := by decide +kernel
theorem dX7_weaveAll_7 : decode cX7_weaveAll 7 = .ok (.aload_n 0, 1) := by decide +kernel
theorem dX7_weaveAll_8 : decode cX7_weaveAll 8 = .ok (.getfield 27, 3) := by decide +kernel
theorem dX7_weaveAll_11 : decode cX7_weaveAll 11 = .ok (.getfield 94, 3) := by decide +kernel
theorem dX7_weaveAll_14 : decode cX7_weaveAll 14 = .ok (.if_icmp .ge 63, 3) := by decide +kernel
theorem dX7_weaveAll_17 : decode cX7_weaveAll 17 = .ok (.aload_n 0, 1) := by decide +kernel
theorem dX7_weaveAll_18 : decode cX7_weaveAll 18 = .ok (.getfield 27, 3) := by decide +kernel
theorem dX7_weaveAll_21 : decode cX7_weaveAll 21 = .ok (.getfield 123, 3) := by decide +kernel
theorem dX7_weaveAll_24 : decode cX7_weaveAll 24 = .ok (.iload 4, 2) := by decide +kernel
theorem dX7_weaveAll_26 : decode cX7_weaveAll 26 = .ok (.iaload, 1) := by decide +kernel
theorem dX7_weaveAll_27 : decode cX7_weaveAll 27 = .ok (.istore 5, 2) := by decide +kernel
theorem dX7_weaveAll_29 : decode cX7_weaveAll 29 = .ok (.iload_n 1, 1) := by decide +kernel
theorem dX7_weaveAll_30 : decode cX7_weaveAll 30 = .ok (.iload 4, 2) := by decide +kernel
theorem dX7_weaveAll_32 : decode cX7_weaveAll 32 = .ok (.ishr, 1) := by decide +kernel
theorem dX7_weaveAll_33 : decode cX7_weaveAll 33 = .ok (.iconst 1, 1) := by decide +kernel
theorem dX7_weaveAll_34 : decode cX7_weaveAll 34 = .ok (.iand, 1) := by decide +kernel
theorem dX7_weaveAll_35 : decode cX7_weaveAll 35 = .ok (.iconst 1, 1) := by decide +kernel
theorem dX7_weaveAll_36 : decode cX7_weaveAll 36 = .ok (.if_icmp .ne 35, 3) := by decide +kernel
theorem dX7_weaveAll_39 : decode cX7_weaveAll 39 = .ok (.aload_n 0, 1) := by decide +kernel
theorem dX7_weaveAll_40 : decode cX7_weaveAll 40 = .ok (.iload 5, 2) := by decide +kernel
theorem dX7_weaveAll_42 : decode cX7_weaveAll 42 = .ok (.invokevirtual 111, 3) := by decide +kernel
theorem dX7_weaveAll_45 : decode cX7_weaveAll 45 = .ok (.ifCond .ne 26, 3) := by decide +kernel
theorem dX7_weaveAll_48 : decode cX7_weaveAll 48 = .ok (.aload_n 0, 1) := by decide +kernel
theorem dX7_weaveAll_49 : decode cX7_weaveAll 49 = .ok (.getfield 34, 3) := by decide +kernel
theorem dX7_weaveAll_52 : decode cX7_weaveAll 52 = .ok (.iload 5, 2) := by decide +kernel
theorem dX7_weaveAll_54 : decode cX7_weaveAll 54 = .ok (.iconst 2, 1) := by decide +kernel
theorem dX7_weaveAll_55 : decode cX7_weaveAll 55 = .ok (.iload 4, 2) := by decide +kernel
theorem dX7_weaveAll_57 : decode cX7_weaveAll 57 = .ok (.imul, 1) := by decide +kernel
theorem dX7_weaveAll_58 : decode cX7_weaveAll 58 = .ok (.iload_n 2, 1) := by decide +kernel
theorem dX7_weaveAll_59 : decode cX7_weaveAll 59 = .ok (.iload 4, 2) := by decide +kernel
theorem dX7_weaveAll_61 : decode cX7_weaveAll 61 = .ok (.ishr, 1) := by decide +kernel
theorem dX7_weaveAll_62 : decode cX7_weaveAll 62 = .ok (.iconst 1, 1) := by decide +kernel
theorem dX7_weaveAll_63 : decode cX7_weaveAll 63 = .ok (.iand, 1) := by decide +kernel
theorem dX7_weaveAll_64 : decode cX7_weaveAll 64 = .ok (.iadd, 1) := by decide +kernel
theorem dX7_weaveAll_65 : decode cX7_weaveAll 65 = .ok (.invokevirtual 274, 3) := by decide +kernel
theorem dX7_weaveAll_68 : decode cX7_weaveAll 68 = .ok (.iinc 3 1, 3) := by decide +kernel
theorem dX7_weaveAll_71 : decode cX7_weaveAll 71 = .ok (.iinc 4 1, 3) := by decide +kernel
theorem dX7_weaveAll_74 : decode cX7_weaveAll 74 = .ok (.goto (-69), 3) := by decide +kernel
theorem dX7_weaveAll_77 : decode cX7_weaveAll 77 = .ok (.iload_n 3, 1) := by decide +kernel
theorem dX7_weaveAll_78 : decode cX7_weaveAll 78 = .ok (.ireturn, 1) := by decide +kernel
set_option maxRecDepth 20000 in
theorem ggX7_stepAll_X1_step : GoodIn wsX7_stepAll wsX1_step := goodIn_r _ [9, 10, 11, 12, 8, 13, 14, 15, 16, 17, 18, 19, 20, 21, 22, 23, 24, 25, 26, 27, 28, 50] (by decide +kernel) (by decide +kernel)
set_option maxRecDepth 20000 in
theorem gX7_stepAll_X1_step : GoodIn wsX7_stepAll (wsV RX7 278 RX1 yX1_step wsX1_step) := goodIn_app (goodIn_of _ (by decide +kernel)) ggX7_stepAll_X1_step
theorem dX7_stepAll_0 : decode cX7_stepAll 0 = .ok (.iconst 0, 1) := by decide +kernel
theorem dX7_stepAll_1 : decode cX7_stepAll 1 = .ok (.istore_n 2, 1) := by decide +kernel
theorem dX7_stepAll_2 : decode cX7_stepAll 2 = .ok (.iload_n 2, 1) := by decide +kernel
theorem dX7_stepAll_3 : decode cX7_stepAll 3 = .ok (.aload_n 0, 1) := by decide +kernel
theorem dX7_stepAll_4 : decode cX7_stepAll 4 = .ok (.getfield 27, 3) := by decide +kernel
theorem dX7_stepAll_7 : decode cX7_stepAll 7 = .ok (.getfield 94, 3) := by decide +kernel
theorem dX7_stepAll_10 : decode cX7_stepAll 10 = .ok (.if_icmp .ge 34, 3) := by decide +kernel
theorem dX7_stepAll_13 : decode cX7_stepAll 13 = .ok (.iload_n 1, 1) := by decide +kernel
theorem dX7_stepAll_14 : decode cX7_stepAll 14 = .ok (.iload_n 2, 1) := by decide +kernel
theorem dX7_stepAll_15 : decode cX7_stepAll 15 = .ok (.ishr, 1) := by decide +kernel
theorem dX7_stepAll_16 : decode cX7_stepAll 16 = .ok (.iconst 1, 1) := by decide +kernel
theorem dX7_stepAll_17 : decode cX7_stepAll 17 = .ok (.iand, 1) := by decide +kernel
theorem dX7_stepAll_18 : decode cX7_stepAll 18 = .ok (.iconst 1, 1) := by decide +kernel
theorem dX7_stepAll_19 : decode cX7_stepAll 19 = .ok (.if_icmp .ne 19, 3) := by decide +kernel
theorem dX7_stepAll_22 : decode cX7_stepAll 22 = .ok (.aload_n 0, 1) := by decide +kernel
theorem dX7_stepAll_23 : decode cX7_stepAll 23 = .ok (.getfield 34, 3) := by decide +kernel
theorem dX7_stepAll_26 : decode cX7_stepAll 26 = .ok (.aload_n 0, 1) := by decide +kernel
theorem dX7_stepAll_27 : decode cX7_stepAll 27 = .ok (.getfield 27, 3) := by decide +kernel
theorem dX7_stepAll_30 : decode cX7_stepAll 30 = .ok (.getfield 123, 3) := by decide +kernel
theorem dX7_stepAll_33 : decode cX7_stepAll 33 = .ok (.iload_n 2, 1) := by decide +kernel
theorem dX7_stepAll_34 : decode cX7_stepAll 34 = .ok (.iaload, 1) := by decide +kernel
theorem dX7_stepAll_35 : decode cX7_stepAll 35 = .ok (.invokevirtual 278, 3) := by decide +kernel
theorem dX7_stepAll_38 : decode cX7_stepAll 38 = .ok (.iinc 2 1, 3) := by decide +kernel
theorem dX7_stepAll_41 : decode cX7_stepAll 41 = .ok (.goto (-39), 3) := by decide +kernel
theorem dX7_stepAll_44 : decode cX7_stepAll 44 = .ok (.return_, 1) := by decide +kernel
set_option maxRecDepth 20000 in
theorem ggX7_priceOfKnot_X4_hasPerson : GoodIn wsX7_priceOfKnot wsX4_hasPerson := goodIn_r _ [7, 8, 21, 22, 23, 24, 25, 26, 27, 28, 29] (by decide +kernel) (by decide +kernel)
set_option maxRecDepth 20000 in
theorem gX7_priceOfKnot_X4_hasPerson : GoodIn wsX7_priceOfKnot (wsV RX7 120 RX4 yX4_hasPerson wsX4_hasPerson) := goodIn_app (goodIn_of _ (by decide +kernel)) ggX7_priceOfKnot_X4_hasPerson
theorem dX7_priceOfKnot_0 : decode cX7_priceOfKnot 0 = .ok (.iload_n 1, 1) := by decide +kernel
theorem dX7_priceOfKnot_1 : decode cX7_priceOfKnot 1 = .ok (.iconst 1, 1) := by decide +kernel
theorem dX7_priceOfKnot_2 : decode cX7_priceOfKnot 2 = .ok (.ishr, 1) := by decide +kernel
theorem dX7_priceOfKnot_3 : decode cX7_priceOfKnot 3 = .ok (.istore_n 2, 1) := by decide +kernel
theorem dX7_priceOfKnot_4 : decode cX7_priceOfKnot 4 = .ok (.aload_n 0, 1) := by decide +kernel
theorem dX7_priceOfKnot_5 : decode cX7_priceOfKnot 5 = .ok (.getfield 27, 3) := by decide +kernel
theorem dX7_priceOfKnot_8 : decode cX7_priceOfKnot 8 = .ok (.iload_n 2, 1) := by decide +kernel
theorem dX7_priceOfKnot_9 : decode cX7_priceOfKnot 9 = .ok (.invokevirtual 120, 3) := by decide +kernel
theorem dX7_priceOfKnot_12 : decode cX7_priceOfKnot 12 = .ok (.ifCond .ne 5, 3) := by decide +kernel
theorem dX7_priceOfKnot_15 : decode cX7_priceOfKnot 15 = .ok (.iconst 0, 1) := by decide +kernel
theorem dX7_priceOfKnot_16 : decode cX7_priceOfKnot 16 = .ok (.ireturn, 1) := by decide +kernel
theorem dX7_priceOfKnot_17 : decode cX7_priceOfKnot 17 = .ok (.iconst 1, 1) := by decide +kernel
theorem dX7_priceOfKnot_18 : decode cX7_priceOfKnot 18 = .ok (.aload_n 0, 1) := by decide +kernel
theorem dX7_priceOfKnot_19 : decode cX7_priceOfKnot 19 = .ok (.getfield 27, 3) := by decide +kernel
theorem dX7_priceOfKnot_22 : decode cX7_priceOfKnot 22 = .ok (.getfield 129, 3) := by decide +kernel
theorem dX7_priceOfKnot_25 : decode cX7_priceOfKnot 25 = .ok (.iload_n 2, 1) := by decide +kernel
theorem dX7_priceOfKnot_26 : decode cX7_priceOfKnot 26 = .ok (.iaload, 1) := by decide +kernel
theorem dX7_priceOfKnot_27 : decode cX7_priceOfKnot 27 = .ok (.iadd, 1) := by decide +kernel
theorem dX7_priceOfKnot_28 : decode cX7_priceOfKnot 28 = .ok (.istore_n 3, 1) := by decide +kernel
theorem dX7_priceOfKnot_29 : decode cX7_priceOfKnot 29 = .ok (.iload_n 1, 1) := by decide +kernel
theorem dX7_priceOfKnot_30 : decode cX7_priceOfKnot 30 = .ok (.iconst 1, 1) := by decide +kernel
theorem dX7_priceOfKnot_31 : decode cX7_priceOfKnot 31 = .ok (.iand, 1) := by decide +kernel
theorem dX7_priceOfKnot_32 : decode cX7_priceOfKnot 32 = .ok (.iconst 1, 1) := by decide +kernel
theorem dX7_priceOfKnot_33 : decode cX7_priceOfKnot 33 = .ok (.if_icmp .ne 9, 3) := by decide +kernel
theorem dX7_priceOfKnot_36 : decode cX7_priceOfKnot 36 = .ok (.iconst 2, 1) := by decide +kernel
theorem dX7_priceOfKnot_37 : decode cX7_priceOfKnot 37 = .ok (.iload_n 3, 1) := by decide +kernel
theorem dX7_priceOfKnot_38 : decode cX7_priceOfKnot 38 = .ok (.imul, 1) := by decide +kernel
theorem dX7_priceOfKnot_39 : decode cX7_priceOfKnot 39 = .ok (.goto 4, 3) := by decide +kernel
theorem dX7_priceOfKnot_42 : decode cX7_priceOfKnot 42 = .ok (.iload_n 3, 1) := by decide +kernel
theorem dX7_priceOfKnot_43 : decode cX7_priceOfKnot 43 = .ok (.ireturn, 1) := by decide +kernel
set_option maxRecDepth 20000 in
theorem ggX7_looksOfKnot_X4_hasPerson : GoodIn wsX7_looksOfKnot wsX4_hasPerson := goodIn_r _ [7, 8, 21, 22, 23, 24, 25, 26, 27, 28, 29] (by decide +kernel) (by decide +kernel)
set_option maxRecDepth 20000 in
theorem gX7_looksOfKnot_X4_hasPerson : GoodIn wsX7_looksOfKnot (wsV RX7 120 RX4 yX4_hasPerson wsX4_hasPerson) := goodIn_app (goodIn_of _ (by decide +kernel)) ggX7_looksOfKnot_X4_hasPerson
theorem dX7_looksOfKnot_0 : decode cX7_looksOfKnot 0 = .ok (.iload_n 1, 1) := by decide +kernel
theorem dX7_looksOfKnot_1 : decode cX7_looksOfKnot 1 = .ok (.iconst 1, 1) := by decide +kernel
theorem dX7_looksOfKnot_2 : decode cX7_looksOfKnot 2 = .ok (.ishr, 1) := by decide +kernel
theorem dX7_looksOfKnot_3 : decode cX7_looksOfKnot 3 = .ok (.istore_n 2, 1) := by decide +kernel
theorem dX7_looksOfKnot_4 : decode cX7_looksOfKnot 4 = .ok (.aload_n 0, 1) := by decide +kernel
theorem dX7_looksOfKnot_5 : decode cX7_looksOfKnot 5 = .ok (.getfield 27, 3) := by decide +kernel
theorem dX7_looksOfKnot_8 : decode cX7_looksOfKnot 8 = .ok (.iload_n 2, 1) := by decide +kernel
theorem dX7_looksOfKnot_9 : decode cX7_looksOfKnot 9 = .ok (.invokevirtual 120, 3) := by decide +kernel
theorem dX7_looksOfKnot_12 : decode cX7_looksOfKnot 12 = .ok (.ifCond .ne 6, 3) := by decide +kernel
theorem dX7_looksOfKnot_15 : decode cX7_looksOfKnot 15 = .ok (.bipush (-9), 2) := by decide +kernel
theorem dX7_looksOfKnot_17 : decode cX7_looksOfKnot 17 = .ok (.ireturn, 1) := by decide +kernel
theorem dX7_looksOfKnot_18 : decode cX7_looksOfKnot 18 = .ok (.iconst 2, 1) := by decide +kernel
theorem dX7_looksOfKnot_19 : decode cX7_looksOfKnot 19 = .ok (.aload_n 0, 1) := by decide +kernel
theorem dX7_looksOfKnot_20 : decode cX7_looksOfKnot 20 = .ok (.getfield 27, 3) := by decide +kernel
theorem dX7_looksOfKnot_23 : decode cX7_looksOfKnot 23 = .ok (.getfield 126, 3) := by decide +kernel
theorem dX7_looksOfKnot_26 : decode cX7_looksOfKnot 26 = .ok (.iload_n 2, 1) := by decide +kernel
theorem dX7_looksOfKnot_27 : decode cX7_looksOfKnot 27 = .ok (.iaload, 1) := by decide +kernel
theorem dX7_looksOfKnot_28 : decode cX7_looksOfKnot 28 = .ok (.imul, 1) := by decide +kernel
theorem dX7_looksOfKnot_29 : decode cX7_looksOfKnot 29 = .ok (.iload_n 1, 1) := by decide +kernel
theorem dX7_looksOfKnot_30 : decode cX7_looksOfKnot 30 = .ok (.iconst 1, 1) := by decide +kernel
theorem dX7_looksOfKnot_31 : decode cX7_looksOfKnot 31 = .ok (.iand, 1) := by decide +kernel
theorem dX7_looksOfKnot_32 : decode cX7_looksOfKnot 32 = .ok (.iadd, 1) := by decide +kernel
theorem dX7_looksOfKnot_33 : decode cX7_looksOfKnot 33 = .ok (.ireturn, 1) := by decide +kernel
set_option maxRecDepth 20000 in
theorem ggX7_standOf_X1_knotsOf : GoodIn wsX7_standOf wsX1_knotsOf := goodIn_r _ [6, 7, 8, 9, 5, 10, 27] (by decide +kernel) (by decide +kernel)
set_option maxRecDepth 20000 in
theorem gX7_standOf_X1_knotsOf : GoodIn wsX7_standOf (wsV RX7 105 RX1 yX1_knotsOf wsX1_knotsOf) := goodIn_app (goodIn_of _ (by decide +kernel)) ggX7_standOf_X1_knotsOf
set_option maxRecDepth 20000 in
theorem ggX7_standOf_X1_stepsOf : GoodIn wsX7_standOf wsX1_stepsOf := goodIn_r _ [14, 7, 8, 9, 5, 10, 27] (by decide +kernel) (by decide +kernel)
set_option maxRecDepth 20000 in
theorem gX7_standOf_X1_stepsOf : GoodIn wsX7_standOf (wsV RX7 108 RX1 yX1_stepsOf wsX1_stepsOf) := goodIn_app (goodIn_of _ (by decide +kernel)) ggX7_standOf_X1_stepsOf
theorem dX7_standOf_0 : decode cX7_standOf 0 = .ok (.aload_n 0, 1) := by decide +kernel
theorem dX7_standOf_1 : decode cX7_standOf 1 = .ok (.getfield 34, 3) := by decide +kernel
theorem dX7_standOf_4 : decode cX7_standOf 4 = .ok (.iload_n 1, 1) := by decide +kernel
theorem dX7_standOf_5 : decode cX7_standOf 5 = .ok (.invokevirtual 105, 3) := by decide +kernel
theorem dX7_standOf_8 : decode cX7_standOf 8 = .ok (.iconst 4, 1) := by decide +kernel
theorem dX7_standOf_9 : decode cX7_standOf 9 = .ok (.imul, 1) := by decide +kernel
theorem dX7_standOf_10 : decode cX7_standOf 10 = .ok (.aload_n 0, 1) := by decide +kernel
theorem dX7_standOf_11 : decode cX7_standOf 11 = .ok (.getfield 34, 3) := by decide +kernel
theorem dX7_standOf_14 : decode cX7_standOf 14 = .ok (.iload_n 1, 1) := by decide +kernel
theorem dX7_standOf_15 : decode cX7_standOf 15 = .ok (.invokevirtual 108, 3) := by decide +kernel
theorem dX7_standOf_18 : decode cX7_standOf 18 = .ok (.iadd, 1) := by decide +kernel
theorem dX7_standOf_19 : decode cX7_standOf 19 = .ok (.ireturn, 1) := by decide +kernel
theorem dX7_drawAway_0 : decode cX7_drawAway 0 = .ok (.iconst 0, 1) := by decide +kernel
theorem dX7_drawAway_1 : decode cX7_drawAway 1 = .ok (.istore_n 1, 1) := by decide +kernel
theorem dX7_drawAway_2 : decode cX7_drawAway 2 = .ok (.iconst 0, 1) := by decide +kernel
theorem dX7_drawAway_3 : decode cX7_drawAway 3 = .ok (.istore_n 2, 1) := by decide +kernel
theorem dX7_drawAway_4 : decode cX7_drawAway 4 = .ok (.iload_n 2, 1) := by decide +kernel
theorem dX7_drawAway_5 : decode cX7_drawAway 5 = .ok (.aload_n 0, 1) := by decide +kernel
theorem dX7_drawAway_6 : decode cX7_drawAway 6 = .ok (.getfield 27, 3) := by decide +kernel
theorem dX7_drawAway_9 : decode cX7_drawAway 9 = .ok (.getfield 94, 3) := by decide +kernel
theorem dX7_drawAway_12 : decode cX7_drawAway 12 = .ok (.if_icmp .ge 56, 3) := by decide +kernel
theorem dX7_drawAway_15 : decode cX7_drawAway 15 = .ok (.aload_n 0, 1) := by decide +kernel
theorem dX7_drawAway_16 : decode cX7_drawAway 16 = .ok (.aload_n 0, 1) := by decide +kernel
theorem dX7_drawAway_17 : decode cX7_drawAway 17 = .ok (.getfield 75, 3) := by decide +kernel
theorem dX7_drawAway_20 : decode cX7_drawAway 20 = .ok (.ldc2_w 281, 3) := by decide +kernel
theorem dX7_drawAway_23 : decode cX7_drawAway 23 = .ok (.lmul, 1) := by decide +kernel
theorem dX7_drawAway_24 : decode cX7_drawAway 24 = .ok (.ldc2_w 283, 3) := by decide +kernel
theorem dX7_drawAway_27 : decode cX7_drawAway 27 = .ok (.ladd, 1) := by decide +kernel
theorem dX7_drawAway_28 : decode cX7_drawAway 28 = .ok (.putfield 75, 3) := by decide +kernel
theorem dX7_drawAway_31 : decode cX7_drawAway 31 = .ok (.aload_n 0, 1) := by decide +kernel
theorem dX7_drawAway_32 : decode cX7_drawAway 32 = .ok (.getfield 75, 3) := by decide +kernel
theorem dX7_drawAway_35 : decode cX7_drawAway 35 = .ok (.bipush 33, 2) := by decide +kernel
theorem dX7_drawAway_37 : decode cX7_drawAway 37 = .ok (.lushr, 1) := by decide +kernel
theorem dX7_drawAway_38 : decode cX7_drawAway 38 = .ok (.ldc2_w 285, 3) := by decide +kernel
theorem dX7_drawAway_41 : decode cX7_drawAway 41 = .ok (.lrem, 1) := by decide +kernel
theorem dX7_drawAway_42 : decode cX7_drawAway 42 = .ok (.aload_n 0, 1) := by decide +kernel
theorem dX7_drawAway_43 : decode cX7_drawAway 43 = .ok (.getfield 27, 3) := by decide +kernel
theorem dX7_drawAway_46 : decode cX7_drawAway 46 = .ok (.getfield 132, 3) := by decide +kernel
theorem dX7_drawAway_49 : decode cX7_drawAway 49 = .ok (.iload_n 2, 1) := by decide +kernel
theorem dX7_drawAway_50 : decode cX7_drawAway 50 = .ok (.iaload, 1) := by decide +kernel
theorem dX7_drawAway_51 : decode cX7_drawAway 51 = .ok (.i2l, 1) := by decide +kernel
theorem dX7_drawAway_52 : decode cX7_drawAway 52 = .ok (.lcmp, 1) := by decide +kernel
theorem dX7_drawAway_53 : decode cX7_drawAway 53 = .ok (.ifCond .ge 9, 3) := by decide +kernel
theorem dX7_drawAway_56 : decode cX7_drawAway 56 = .ok (.iload_n 1, 1) := by decide +kernel
theorem dX7_drawAway_57 : decode cX7_drawAway 57 = .ok (.iconst 1, 1) := by decide +kernel
theorem dX7_drawAway_58 : decode cX7_drawAway 58 = .ok (.iload_n 2, 1) := by decide +kernel
theorem dX7_drawAway_59 : decode cX7_drawAway 59 = .ok (.ishl, 1) := by decide +kernel
theorem dX7_drawAway_60 : decode cX7_drawAway 60 = .ok (.ior, 1) := by decide +kernel
theorem dX7_drawAway_61 : decode cX7_drawAway 61 = .ok (.istore_n 1, 1) := by decide +kernel
theorem dX7_drawAway_62 : decode cX7_drawAway 62 = .ok (.iinc 2 1, 3) := by decide +kernel
theorem dX7_drawAway_65 : decode cX7_drawAway 65 = .ok (.goto (-61), 3) := by decide +kernel
theorem dX7_drawAway_68 : decode cX7_drawAway 68 = .ok (.iload_n 1, 1) := by decide +kernel
theorem dX7_drawAway_69 : decode cX7_drawAway 69 = .ok (.ireturn, 1) := by decide +kernel
theorem dX7_behindDinner_0 : decode cX7_behindDinner 0 = .ok (.iload_n 1, 1) := by decide +kernel
theorem dX7_behindDinner_1 : decode cX7_behindDinner 1 = .ok (.iload_n 0, 1) := by decide +kernel
theorem dX7_behindDinner_2 : decode cX7_behindDinner 2 = .ok (.iconst 4, 1) := by decide +kernel
theorem dX7_behindDinner_3 : decode cX7_behindDinner 3 = .ok (.idiv, 1) := by decide +kernel
theorem dX7_behindDinner_4 : decode cX7_behindDinner 4 = .ok (.iload_n 2, 1) := by decide +kernel
theorem dX7_behindDinner_5 : decode cX7_behindDinner 5 = .ok (.iadd, 1) := by decide +kernel
theorem dX7_behindDinner_6 : decode cX7_behindDinner 6 = .ok (.invokestatic 186, 3) := by decide +kernel
theorem dX7_behindDinner_9 : decode cX7_behindDinner 9 = .ok (.istore 4, 2) := by decide +kernel
theorem dX7_behindDinner_11 : decode cX7_behindDinner 11 = .ok (.iload_n 0, 1) := by decide +kernel
theorem dX7_behindDinner_12 : decode cX7_behindDinner 12 = .ok (.iconst 4, 1) := by decide +kernel
theorem dX7_behindDinner_13 : decode cX7_behindDinner 13 = .ok (.irem, 1) := by decide +kernel
theorem dX7_behindDinner_14 : decode cX7_behindDinner 14 = .ok (.iload_n 3, 1) := by decide +kernel
theorem dX7_behindDinner_15 : decode cX7_behindDinner 15 = .ok (.iadd, 1) := by decide +kernel
theorem dX7_behindDinner_16 : decode cX7_behindDinner 16 = .ok (.istore 5, 2) := by decide +kernel
theorem dX7_behindDinner_18 : decode cX7_behindDinner 18 = .ok (.iconst 0, 1) := by decide +kernel
theorem dX7_behindDinner_19 : decode cX7_behindDinner 19 = .ok (.iload 4, 2) := by decide +kernel
theorem dX7_behindDinner_21 : decode cX7_behindDinner 21 = .ok (.iload 5, 2) := by decide +kernel
theorem dX7_behindDinner_23 : decode cX7_behindDinner 23 = .ok (.iconst 4, 1) := by decide +kernel
theorem dX7_behindDinner_24 : decode cX7_behindDinner 24 = .ok (.idiv, 1) := by decide +kernel
theorem dX7_behindDinner_25 : decode cX7_behindDinner 25 = .ok (.isub, 1) := by decide +kernel
theorem dX7_behindDinner_26 : decode cX7_behindDinner 26 = .ok (.invokestatic 181, 3) := by decide +kernel
theorem dX7_behindDinner_29 : decode cX7_behindDinner 29 = .ok (.istore 6, 2) := by decide +kernel
theorem dX7_behindDinner_31 : decode cX7_behindDinner 31 = .ok (.iload 6, 2) := by decide +kernel
theorem dX7_behindDinner_33 : decode cX7_behindDinner 33 = .ok (.iconst 4, 1) := by decide +kernel
theorem dX7_behindDinner_34 : decode cX7_behindDinner 34 = .ok (.imul, 1) := by decide +kernel
theorem dX7_behindDinner_35 : decode cX7_behindDinner 35 = .ok (.iload 5, 2) := by decide +kernel
theorem dX7_behindDinner_37 : decode cX7_behindDinner 37 = .ok (.iconst 4, 1) := by decide +kernel
theorem dX7_behindDinner_38 : decode cX7_behindDinner 38 = .ok (.irem, 1) := by decide +kernel
theorem dX7_behindDinner_39 : decode cX7_behindDinner 39 = .ok (.iadd, 1) := by decide +kernel
theorem dX7_behindDinner_40 : decode cX7_behindDinner 40 = .ok (.ireturn, 1) := by decide +kernel
