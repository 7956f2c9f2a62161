theorem dX8_init_0 : decode cX8_init 0 = .ok (.aload_n 0, 1) := by decide +kernel
theorem dX8_init_1 : decode cX8_init 1 = .ok (.invokespecial 1, 3) := by decide +kernel
theorem dX8_init_4 : decode cX8_init 4 = .ok (.aload_n 0, 1) := by decide +kernel
theorem dX8_init_5 : decode cX8_init 5 = .ok (.iconst 3, 1) := by decide +kernel
theorem dX8_init_6 : decode cX8_init 6 = .ok (.newarray .int, 2) := by decide +kernel
theorem dX8_init_8 : decode cX8_init 8 = .ok (.putfield 7, 3) := by decide +kernel
theorem dX8_init_11 : decode cX8_init 11 = .ok (.aload_n 0, 1) := by decide +kernel
theorem dX8_init_12 : decode cX8_init 12 = .ok (.bipush 20, 2) := by decide +kernel
theorem dX8_init_14 : decode cX8_init 14 = .ok (.newarray .int, 2) := by decide +kernel
theorem dX8_init_16 : decode cX8_init 16 = .ok (.putfield 13, 3) := by decide +kernel
theorem dX8_init_19 : decode cX8_init 19 = .ok (.aload_n 0, 1) := by decide +kernel
theorem dX8_init_20 : decode cX8_init 20 = .ok (.bipush 25, 2) := by decide +kernel
theorem dX8_init_22 : decode cX8_init 22 = .ok (.newarray .int, 2) := by decide +kernel
theorem dX8_init_24 : decode cX8_init 24 = .ok (.putfield 16, 3) := by decide +kernel
theorem dX8_init_27 : decode cX8_init 27 = .ok (.aload_n 0, 1) := by decide +kernel
theorem dX8_init_28 : decode cX8_init 28 = .ok (.iconst 3, 1) := by decide +kernel
theorem dX8_init_29 : decode cX8_init 29 = .ok (.newarray .int, 2) := by decide +kernel
theorem dX8_init_31 : decode cX8_init 31 = .ok (.putfield 19, 3) := by decide +kernel
theorem dX8_init_34 : decode cX8_init 34 = .ok (.aload_n 0, 1) := by decide +kernel
theorem dX8_init_35 : decode cX8_init 35 = .ok (.bipush 20, 2) := by decide +kernel
theorem dX8_init_37 : decode cX8_init 37 = .ok (.newarray .int, 2) := by decide +kernel
theorem dX8_init_39 : decode cX8_init 39 = .ok (.putfield 22, 3) := by decide +kernel
theorem dX8_init_42 : decode cX8_init 42 = .ok (.aload_n 0, 1) := by decide +kernel
theorem dX8_init_43 : decode cX8_init 43 = .ok (.bipush 25, 2) := by decide +kernel
theorem dX8_init_45 : decode cX8_init 45 = .ok (.newarray .int, 2) := by decide +kernel
theorem dX8_init_47 : decode cX8_init 47 = .ok (.putfield 25, 3) := by decide +kernel
theorem dX8_init_50 : decode cX8_init 50 = .ok (.aload_n 0, 1) := by decide +kernel
theorem dX8_init_51 : decode cX8_init 51 = .ok (.bipush 64, 2) := by decide +kernel
theorem dX8_init_53 : decode cX8_init 53 = .ok (.newarray .int, 2) := by decide +kernel
theorem dX8_init_55 : decode cX8_init 55 = .ok (.putfield 28, 3) := by decide +kernel
theorem dX8_init_58 : decode cX8_init 58 = .ok (.aload_n 0, 1) := by decide +kernel
theorem dX8_init_59 : decode cX8_init 59 = .ok (.sipush 194, 3) := by decide +kernel
theorem dX8_init_62 : decode cX8_init 62 = .ok (.newarray .int, 2) := by decide +kernel
theorem dX8_init_64 : decode cX8_init 64 = .ok (.putfield 31, 3) := by decide +kernel
theorem dX8_init_67 : decode cX8_init 67 = .ok (.aload_n 0, 1) := by decide +kernel
theorem dX8_init_68 : decode cX8_init 68 = .ok (.sipush 1552, 3) := by decide +kernel
theorem dX8_init_71 : decode cX8_init 71 = .ok (.newarray .int, 2) := by decide +kernel
theorem dX8_init_73 : decode cX8_init 73 = .ok (.putfield 34, 3) := by decide +kernel
theorem dX8_init_76 : decode cX8_init 76 = .ok (.aload_n 0, 1) := by decide +kernel
theorem dX8_init_77 : decode cX8_init 77 = .ok (.sipush 868, 3) := by decide +kernel
theorem dX8_init_80 : decode cX8_init 80 = .ok (.newarray .int, 2) := by decide +kernel
theorem dX8_init_82 : decode cX8_init 82 = .ok (.putfield 37, 3) := by decide +kernel
theorem dX8_init_85 : decode cX8_init 85 = .ok (.aload_n 0, 1) := by decide +kernel
theorem dX8_init_86 : decode cX8_init 86 = .ok (.iconst 4, 1) := by decide +kernel
theorem dX8_init_87 : decode cX8_init 87 = .ok (.newarray .int, 2) := by decide +kernel
theorem dX8_init_89 : decode cX8_init 89 = .ok (.putfield 40, 3) := by decide +kernel
theorem dX8_init_92 : decode cX8_init 92 = .ok (.aload_n 0, 1) := by decide +kernel
theorem dX8_init_93 : decode cX8_init 93 = .ok (.bipush 124, 2) := by decide +kernel
theorem dX8_init_95 : decode cX8_init 95 = .ok (.newarray .long, 2) := by decide +kernel
theorem dX8_init_97 : decode cX8_init 97 = .ok (.putfield 43, 3) := by decide +kernel
theorem dX8_init_100 : decode cX8_init 100 = .ok (.aload_n 0, 1) := by decide +kernel
theorem dX8_init_101 : decode cX8_init 101 = .ok (.bipush 124, 2) := by decide +kernel
theorem dX8_init_103 : decode cX8_init 103 = .ok (.newarray .long, 2) := by decide +kernel
theorem dX8_init_105 : decode cX8_init 105 = .ok (.putfield 47, 3) := by decide +kernel
theorem dX8_init_108 : decode cX8_init 108 = .ok (.aload_n 0, 1) := by decide +kernel
theorem dX8_init_109 : decode cX8_init 109 = .ok (.iconst 2, 1) := by decide +kernel
theorem dX8_init_110 : decode cX8_init 110 = .ok (.newarray .boolean, 2) := by decide +kernel
theorem dX8_init_112 : decode cX8_init 112 = .ok (.putfield 50, 3) := by decide +kernel
theorem dX8_init_115 : decode cX8_init 115 = .ok (.aload_n 0, 1) := by decide +kernel
theorem dX8_init_116 : decode cX8_init 116 = .ok (.sipush 194, 3) := by decide +kernel
theorem dX8_init_119 : decode cX8_init 119 = .ok (.newarray .int, 2) := by decide +kernel
theorem dX8_init_121 : decode cX8_init 121 = .ok (.putfield 54, 3) := by decide +kernel
theorem dX8_init_124 : decode cX8_init 124 = .ok (.iconst 0, 1) := by decide +kernel
theorem dX8_init_125 : decode cX8_init 125 = .ok (.istore_n 1, 1) := by decide +kernel
theorem dX8_init_126 : decode cX8_init 126 = .ok (.iload_n 1, 1) := by decide +kernel
theorem dX8_init_127 : decode cX8_init 127 = .ok (.iconst 4, 1) := by decide +kernel
theorem dX8_init_128 : decode cX8_init 128 = .ok (.if_icmp .ge 17, 3) := by decide +kernel
theorem dX8_init_131 : decode cX8_init 131 = .ok (.aload_n 0, 1) := by decide +kernel
theorem dX8_init_132 : decode cX8_init 132 = .ok (.getfield 40, 3) := by decide +kernel
theorem dX8_init_135 : decode cX8_init 135 = .ok (.iload_n 1, 1) := by decide +kernel
theorem dX8_init_136 : decode cX8_init 136 = .ok (.bipush (-9), 2) := by decide +kernel
theorem dX8_init_138 : decode cX8_init 138 = .ok (.iastore, 1) := by decide +kernel
theorem dX8_init_139 : decode cX8_init 139 = .ok (.iinc 1 1, 3) := by decide +kernel
theorem dX8_init_142 : decode cX8_init 142 = .ok (.goto (-16), 3) := by decide +kernel
theorem dX8_init_145 : decode cX8_init 145 = .ok (.return_, 1) := by decide +kernel
theorem dX8_in_0 : decode cX8_in 0 = .ok (.lload_n 0, 1) := by decide +kernel
theorem dX8_in_1 : decode cX8_in 1 = .ok (.lload_n 2, 1) := by decide +kernel
theorem dX8_in_2 : decode cX8_in 2 = .ok (.lcmp, 1) := by decide +kernel
theorem dX8_in_3 : decode cX8_in 3 = .ok (.ifCond .lt 14, 3) := by decide +kernel
theorem dX8_in_6 : decode cX8_in 6 = .ok (.lload_n 0, 1) := by decide +kernel
theorem dX8_in_7 : decode cX8_in 7 = .ok (.lload 4, 2) := by decide +kernel
theorem dX8_in_9 : decode cX8_in 9 = .ok (.lcmp, 1) := by decide +kernel
theorem dX8_in_10 : decode cX8_in 10 = .ok (.ifCond .gt 7, 3) := by decide +kernel
theorem dX8_in_13 : decode cX8_in 13 = .ok (.iconst 1, 1) := by decide +kernel
theorem dX8_in_14 : decode cX8_in 14 = .ok (.goto 4, 3) := by decide +kernel
theorem dX8_in_17 : decode cX8_in 17 = .ok (.iconst 0, 1) := by decide +kernel
theorem dX8_in_18 : decode cX8_in 18 = .ok (.ireturn, 1) := by decide +kernel
set_option maxRecDepth 20000 in
theorem ggX8_write_X8_in : GoodIn wsX8_write wsX8_in := goodIn_r _ [8] (by decide +kernel) (by decide +kernel)
set_option maxRecDepth 20000 in
theorem gX8_write_X8_in : GoodIn wsX8_write (va_wsS RX8 59 yX8_in wsX8_in) := goodIn_app (goodIn_of _ (by decide +kernel)) ggX8_write_X8_in
theorem dX8_write_0 : decode cX8_write 0 = .ok (.iload_n 1, 1) := by decide +kernel
theorem dX8_write_1 : decode cX8_write 1 = .ok (.i2l, 1) := by decide +kernel
theorem dX8_write_2 : decode cX8_write 2 = .ok (.lconst 1, 1) := by decide +kernel
theorem dX8_write_3 : decode cX8_write 3 = .ok (.ldc2_w 57, 3) := by decide +kernel
theorem dX8_write_6 : decode cX8_write 6 = .ok (.invokestatic 59, 3) := by decide +kernel
theorem dX8_write_9 : decode cX8_write 9 = .ok (.ifCond .ne 6, 3) := by decide +kernel
theorem dX8_write_12 : decode cX8_write 12 = .ok (.bipush (-2), 2) := by decide +kernel
theorem dX8_write_14 : decode cX8_write 14 = .ok (.ireturn, 1) := by decide +kernel
theorem dX8_write_15 : decode cX8_write 15 = .ok (.aload_n 0, 1) := by decide +kernel
theorem dX8_write_16 : decode cX8_write 16 = .ok (.getfield 63, 3) := by decide +kernel
theorem dX8_write_19 : decode cX8_write 19 = .ok (.iload_n 1, 1) := by decide +kernel
theorem dX8_write_20 : decode cX8_write 20 = .ok (.iadd, 1) := by decide +kernel
theorem dX8_write_21 : decode cX8_write 21 = .ok (.bipush 64, 2) := by decide +kernel
theorem dX8_write_23 : decode cX8_write 23 = .ok (.if_icmp .le 6, 3) := by decide +kernel
theorem dX8_write_26 : decode cX8_write 26 = .ok (.bipush (-4), 2) := by decide +kernel
theorem dX8_write_28 : decode cX8_write 28 = .ok (.ireturn, 1) := by decide +kernel
theorem dX8_write_29 : decode cX8_write 29 = .ok (.iload_n 1, 1) := by decide +kernel
theorem dX8_write_30 : decode cX8_write 30 = .ok (.iconst 1, 1) := by decide +kernel
theorem dX8_write_31 : decode cX8_write 31 = .ok (.isub, 1) := by decide +kernel
theorem dX8_write_32 : decode cX8_write 32 = .ok (.istore 4, 2) := by decide +kernel
theorem dX8_write_34 : decode cX8_write 34 = .ok (.iload 4, 2) := by decide +kernel
theorem dX8_write_36 : decode cX8_write 36 = .ok (.ifCond .lt 40, 3) := by decide +kernel
theorem dX8_write_39 : decode cX8_write 39 = .ok (.aload_n 0, 1) := by decide +kernel
theorem dX8_write_40 : decode cX8_write 40 = .ok (.getfield 28, 3) := by decide +kernel
theorem dX8_write_43 : decode cX8_write 43 = .ok (.aload_n 0, 1) := by decide +kernel
theorem dX8_write_44 : decode cX8_write 44 = .ok (.getfield 63, 3) := by decide +kernel
theorem dX8_write_47 : decode cX8_write 47 = .ok (.lload_n 2, 1) := by decide +kernel
theorem dX8_write_48 : decode cX8_write 48 = .ok (.bipush 8, 2) := by decide +kernel
theorem dX8_write_50 : decode cX8_write 50 = .ok (.iload 4, 2) := by decide +kernel
theorem dX8_write_52 : decode cX8_write 52 = .ok (.imul, 1) := by decide +kernel
theorem dX8_write_53 : decode cX8_write 53 = .ok (.lshr, 1) := by decide +kernel
theorem dX8_write_54 : decode cX8_write 54 = .ok (.ldc2_w 67, 3) := by decide +kernel
theorem dX8_write_57 : decode cX8_write 57 = .ok (.land, 1) := by decide +kernel
theorem dX8_write_58 : decode cX8_write 58 = .ok (.l2i, 1) := by decide +kernel
theorem dX8_write_59 : decode cX8_write 59 = .ok (.iastore, 1) := by decide +kernel
theorem dX8_write_60 : decode cX8_write 60 = .ok (.aload_n 0, 1) := by decide +kernel
theorem dX8_write_61 : decode cX8_write 61 = .ok (.dup, 1) := by decide +kernel
theorem dX8_write_62 : decode cX8_write 62 = .ok (.getfield 63, 3) := by decide +kernel
theorem dX8_write_65 : decode cX8_write 65 = .ok (.iconst 1, 1) := by decide +kernel
theorem dX8_write_66 : decode cX8_write 66 = .ok (.iadd, 1) := by decide +kernel
theorem dX8_write_67 : decode cX8_write 67 = .ok (.putfield 63, 3) := by decide +kernel
theorem dX8_write_70 : decode cX8_write 70 = .ok (.iinc 4 (-1), 3) := by decide +kernel
theorem dX8_write_73 : decode cX8_write 73 = .ok (.goto (-39), 3) := by decide +kernel
theorem dX8_write_76 : decode cX8_write 76 = .ok (.aload_n 0, 1) := by decide +kernel
theorem dX8_write_77 : decode cX8_write 77 = .ok (.getfield 63, 3) := by decide +kernel
theorem dX8_write_80 : decode cX8_write 80 = .ok (.ireturn, 1) := by decide +kernel
theorem dX8_wipe_0 : decode cX8_wipe 0 = .ok (.aload_n 0, 1) := by decide +kernel
theorem dX8_wipe_1 : decode cX8_wipe 1 = .ok (.getfield 63, 3) := by decide +kernel
theorem dX8_wipe_4 : decode cX8_wipe 4 = .ok (.istore_n 1, 1) := by decide +kernel
theorem dX8_wipe_5 : decode cX8_wipe 5 = .ok (.aload_n 0, 1) := by decide +kernel
theorem dX8_wipe_6 : decode cX8_wipe 6 = .ok (.iconst 0, 1) := by decide +kernel
theorem dX8_wipe_7 : decode cX8_wipe 7 = .ok (.putfield 63, 3) := by decide +kernel
theorem dX8_wipe_10 : decode cX8_wipe 10 = .ok (.iload_n 1, 1) := by decide +kernel
theorem dX8_wipe_11 : decode cX8_wipe 11 = .ok (.ireturn, 1) := by decide +kernel
set_option maxRecDepth 20000 in
theorem ggX8_sign_X8_in : GoodIn wsX8_sign wsX8_in := goodIn_r _ [9] (by decide +kernel) (by decide +kernel)
set_option maxRecDepth 20000 in
theorem gX8_sign_X8_in : GoodIn wsX8_sign (va_wsS RX8 59 yX8_in wsX8_in) := goodIn_app (goodIn_of _ (by decide +kernel)) ggX8_sign_X8_in
theorem dX8_sign_0 : decode cX8_sign 0 = .ok (.aload_n 0, 1) := by decide +kernel
theorem dX8_sign_1 : decode cX8_sign 1 = .ok (.getfield 69, 3) := by decide +kernel
theorem dX8_sign_4 : decode cX8_sign 4 = .ok (.bipush (-9), 2) := by decide +kernel
theorem dX8_sign_6 : decode cX8_sign 6 = .ok (.if_icmp .ne 28, 3) := by decide +kernel
theorem dX8_sign_9 : decode cX8_sign 9 = .ok (.aload_n 0, 1) := by decide +kernel
theorem dX8_sign_10 : decode cX8_sign 10 = .ok (.getfield 72, 3) := by decide +kernel
theorem dX8_sign_13 : decode cX8_sign 13 = .ok (.aload_n 0, 1) := by decide +kernel
theorem dX8_sign_14 : decode cX8_sign 14 = .ok (.getfield 63, 3) := by decide +kernel
theorem dX8_sign_17 : decode cX8_sign 17 = .ok (.if_icmp .ge 17, 3) := by decide +kernel
theorem dX8_sign_20 : decode cX8_sign 20 = .ok (.aload_n 0, 1) := by decide +kernel
theorem dX8_sign_21 : decode cX8_sign 21 = .ok (.getfield 28, 3) := by decide +kernel
theorem dX8_sign_24 : decode cX8_sign 24 = .ok (.aload_n 0, 1) := by decide +kernel
theorem dX8_sign_25 : decode cX8_sign 25 = .ok (.getfield 72, 3) := by decide +kernel
theorem dX8_sign_28 : decode cX8_sign 28 = .ok (.iaload, 1) := by decide +kernel
theorem dX8_sign_29 : decode cX8_sign 29 = .ok (.iload_n 1, 1) := by decide +kernel
theorem dX8_sign_30 : decode cX8_sign 30 = .ok (.isub, 1) := by decide +kernel
theorem dX8_sign_31 : decode cX8_sign 31 = .ok (.goto 4, 3) := by decide +kernel
theorem dX8_sign_34 : decode cX8_sign 34 = .ok (.iconst (-1), 1) := by decide +kernel
theorem dX8_sign_35 : decode cX8_sign 35 = .ok (.istore_n 3, 1) := by decide +kernel
theorem dX8_sign_36 : decode cX8_sign 36 = .ok (.iload_n 3, 1) := by decide +kernel
theorem dX8_sign_37 : decode cX8_sign 37 = .ok (.i2l, 1) := by decide +kernel
theorem dX8_sign_38 : decode cX8_sign 38 = .ok (.lconst 0, 1) := by decide +kernel
theorem dX8_sign_39 : decode cX8_sign 39 = .ok (.ldc2_w 75, 3) := by decide +kernel
theorem dX8_sign_42 : decode cX8_sign 42 = .ok (.invokestatic 59, 3) := by decide +kernel
theorem dX8_sign_45 : decode cX8_sign 45 = .ok (.ifCond .eq 11, 3) := by decide +kernel
theorem dX8_sign_48 : decode cX8_sign 48 = .ok (.iload_n 2, 1) := by decide +kernel
theorem dX8_sign_49 : decode cX8_sign 49 = .ok (.iload_n 3, 1) := by decide +kernel
theorem dX8_sign_50 : decode cX8_sign 50 = .ok (.ishr, 1) := by decide +kernel
theorem dX8_sign_51 : decode cX8_sign 51 = .ok (.iconst 1, 1) := by decide +kernel
theorem dX8_sign_52 : decode cX8_sign 52 = .ok (.iand, 1) := by decide +kernel
theorem dX8_sign_53 : decode cX8_sign 53 = .ok (.ifCond .ne 29, 3) := by decide +kernel
theorem dX8_sign_56 : decode cX8_sign 56 = .ok (.aload_n 0, 1) := by decide +kernel
theorem dX8_sign_57 : decode cX8_sign 57 = .ok (.aload_n 0, 1) := by decide +kernel
theorem dX8_sign_58 : decode cX8_sign 58 = .ok (.getfield 69, 3) := by decide +kernel
theorem dX8_sign_61 : decode cX8_sign 61 = .ok (.bipush (-9), 2) := by decide +kernel
theorem dX8_sign_63 : decode cX8_sign 63 = .ok (.if_icmp .ne 10, 3) := by decide +kernel
theorem dX8_sign_66 : decode cX8_sign 66 = .ok (.aload_n 0, 1) := by decide +kernel
theorem dX8_sign_67 : decode cX8_sign 67 = .ok (.getfield 72, 3) := by decide +kernel
theorem dX8_sign_70 : decode cX8_sign 70 = .ok (.goto 7, 3) := by decide +kernel
theorem dX8_sign_73 : decode cX8_sign 73 = .ok (.aload_n 0, 1) := by decide +kernel
theorem dX8_sign_74 : decode cX8_sign 74 = .ok (.getfield 69, 3) := by decide +kernel
theorem dX8_sign_77 : decode cX8_sign 77 = .ok (.putfield 69, 3) := by decide +kernel
theorem dX8_sign_80 : decode cX8_sign 80 = .ok (.iconst 0, 1) := by decide +kernel
theorem dX8_sign_81 : decode cX8_sign 81 = .ok (.ireturn, 1) := by decide +kernel
theorem dX8_sign_82 : decode cX8_sign 82 = .ok (.aload_n 0, 1) := by decide +kernel
theorem dX8_sign_83 : decode cX8_sign 83 = .ok (.dup, 1) := by decide +kernel
theorem dX8_sign_84 : decode cX8_sign 84 = .ok (.getfield 72, 3) := by decide +kernel
theorem dX8_sign_87 : decode cX8_sign 87 = .ok (.iconst 1, 1) := by decide +kernel
theorem dX8_sign_88 : decode cX8_sign 88 = .ok (.iadd, 1) := by decide +kernel
theorem dX8_sign_89 : decode cX8_sign 89 = .ok (.putfield 72, 3) := by decide +kernel
theorem dX8_sign_92 : decode cX8_sign 92 = .ok (.iload_n 3, 1) := by decide +kernel
theorem dX8_sign_93 : decode cX8_sign 93 = .ok (.ireturn, 1) := by decide +kernel
set_option maxRecDepth 20000 in
theorem ggX8_figure_X8_sign : GoodIn wsX8_figure wsX8_sign := goodIn_r _ [5, 6, 7, 8, 9, 10, 11, 12, 4, 13, 14, 15, 16, 17, 18, 19, 20, 21, 22, 23, 24, 25, 26, 27, 28, 29, 30, 31, 32, 33, 34, 35, 36, 37, 38, 39, 40] (by decide +kernel) (by decide +kernel)
set_option maxRecDepth 20000 in
theorem gX8_figure_X8_sign : GoodIn wsX8_figure (wsV RX8 77 RX8 yX8_sign wsX8_sign) := goodIn_app (goodIn_of _ (by decide +kernel)) ggX8_figure_X8_sign
theorem dX8_figure_0 : decode cX8_figure 0 = .ok (.aload_n 0, 1) := by decide +kernel
theorem dX8_figure_1 : decode cX8_figure 1 = .ok (.bipush 48, 2) := by decide +kernel
theorem dX8_figure_3 : decode cX8_figure 3 = .ok (.iload_n 1, 1) := by decide +kernel
theorem dX8_figure_4 : decode cX8_figure 4 = .ok (.invokevirtual 77, 3) := by decide +kernel
theorem dX8_figure_7 : decode cX8_figure 7 = .ok (.ireturn, 1) := by decide +kernel
theorem dX8_open_0 : decode cX8_open 0 = .ok (.iconst 0, 1) := by decide +kernel
theorem dX8_open_1 : decode cX8_open 1 = .ok (.istore_n 2, 1) := by decide +kernel
theorem dX8_open_2 : decode cX8_open 2 = .ok (.iconst 0, 1) := by decide +kernel
theorem dX8_open_3 : decode cX8_open 3 = .ok (.istore_n 3, 1) := by decide +kernel
theorem dX8_open_4 : decode cX8_open 4 = .ok (.iload_n 3, 1) := by decide +kernel
theorem dX8_open_5 : decode cX8_open 5 = .ok (.aload_n 0, 1) := by decide +kernel
theorem dX8_open_6 : decode cX8_open 6 = .ok (.getfield 81, 3) := by decide +kernel
theorem dX8_open_9 : decode cX8_open 9 = .ok (.if_icmp .ge 37, 3) := by decide +kernel
theorem dX8_open_12 : decode cX8_open 12 = .ok (.iload_n 2, 1) := by decide +kernel
theorem dX8_open_13 : decode cX8_open 13 = .ok (.iload_n 3, 1) := by decide +kernel
theorem dX8_open_14 : decode cX8_open 14 = .ok (.iload_n 1, 1) := by decide +kernel
theorem dX8_open_15 : decode cX8_open 15 = .ok (.if_icmp .eq 22, 3) := by decide +kernel
theorem dX8_open_18 : decode cX8_open 18 = .ok (.aload_n 0, 1) := by decide +kernel
theorem dX8_open_19 : decode cX8_open 19 = .ok (.getfield 16, 3) := by decide +kernel
theorem dX8_open_22 : decode cX8_open 22 = .ok (.iconst 5, 1) := by decide +kernel
theorem dX8_open_23 : decode cX8_open 23 = .ok (.iload_n 1, 1) := by decide +kernel
theorem dX8_open_24 : decode cX8_open 24 = .ok (.imul, 1) := by decide +kernel
theorem dX8_open_25 : decode cX8_open 25 = .ok (.iload_n 3, 1) := by decide +kernel
theorem dX8_open_26 : decode cX8_open 26 = .ok (.iadd, 1) := by decide +kernel
theorem dX8_open_27 : decode cX8_open 27 = .ok (.iaload, 1) := by decide +kernel
theorem dX8_open_28 : decode cX8_open 28 = .ok (.ifCond .ne 9, 3) := by decide +kernel
theorem dX8_open_31 : decode cX8_open 31 = .ok (.iconst 1, 1) := by decide +kernel
theorem dX8_open_32 : decode cX8_open 32 = .ok (.iload_n 3, 1) := by decide +kernel
theorem dX8_open_33 : decode cX8_open 33 = .ok (.ishl, 1) := by decide +kernel
theorem dX8_open_34 : decode cX8_open 34 = .ok (.goto 4, 3) := by decide +kernel
theorem dX8_open_37 : decode cX8_open 37 = .ok (.iconst 0, 1) := by decide +kernel
theorem dX8_open_38 : decode cX8_open 38 = .ok (.ior, 1) := by decide +kernel
theorem dX8_open_39 : decode cX8_open 39 = .ok (.istore_n 2, 1) := by decide +kernel
theorem dX8_open_40 : decode cX8_open 40 = .ok (.iinc 3 1, 3) := by decide +kernel
theorem dX8_open_43 : decode cX8_open 43 = .ok (.goto (-39), 3) := by decide +kernel
theorem dX8_open_46 : decode cX8_open 46 = .ok (.iload_n 2, 1) := by decide +kernel
theorem dX8_open_47 : decode cX8_open 47 = .ok (.ireturn, 1) := by decide +kernel
set_option maxRecDepth 20000 in
theorem ggX8_begins_X8_open : GoodIn wsX8_begins wsX8_open := goodIn_r _ [6, 1, 7, 8, 9, 10, 11, 12, 13, 14, 15, 16, 17, 18, 19, 20, 21, 22, 23, 24, 25, 26, 27, 28, 29, 30, 31, 32, 33, 34] (by decide +kernel) (by decide +kernel)
set_option maxRecDepth 20000 in
theorem gX8_begins_X8_open : GoodIn wsX8_begins (wsV RX8 84 RX8 yX8_open wsX8_open) := goodIn_app (goodIn_of _ (by decide +kernel)) ggX8_begins_X8_open
theorem dX8_begins_0 : decode cX8_begins 0 = .ok (.iconst 0, 1) := by decide +kernel
theorem dX8_begins_1 : decode cX8_begins 1 = .ok (.istore_n 1, 1) := by decide +kernel
theorem dX8_begins_2 : decode cX8_begins 2 = .ok (.iconst 0, 1) := by decide +kernel
theorem dX8_begins_3 : decode cX8_begins 3 = .ok (.istore_n 2, 1) := by decide +kernel
theorem dX8_begins_4 : decode cX8_begins 4 = .ok (.iload_n 2, 1) := by decide +kernel
theorem dX8_begins_5 : decode cX8_begins 5 = .ok (.aload_n 0, 1) := by decide +kernel
theorem dX8_begins_6 : decode cX8_begins 6 = .ok (.getfield 81, 3) := by decide +kernel
theorem dX8_begins_9 : decode cX8_begins 9 = .ok (.if_icmp .ge 27, 3) := by decide +kernel
theorem dX8_begins_12 : decode cX8_begins 12 = .ok (.iload_n 1, 1) := by decide +kernel
theorem dX8_begins_13 : decode cX8_begins 13 = .ok (.aload_n 0, 1) := by decide +kernel
theorem dX8_begins_14 : decode cX8_begins 14 = .ok (.iload_n 2, 1) := by decide +kernel
theorem dX8_begins_15 : decode cX8_begins 15 = .ok (.invokevirtual 84, 3) := by decide +kernel
theorem dX8_begins_18 : decode cX8_begins 18 = .ok (.ifCond .eq 9, 3) := by decide +kernel
theorem dX8_begins_21 : decode cX8_begins 21 = .ok (.iconst 1, 1) := by decide +kernel
theorem dX8_begins_22 : decode cX8_begins 22 = .ok (.iload_n 2, 1) := by decide +kernel
theorem dX8_begins_23 : decode cX8_begins 23 = .ok (.ishl, 1) := by decide +kernel
theorem dX8_begins_24 : decode cX8_begins 24 = .ok (.goto 4, 3) := by decide +kernel
theorem dX8_begins_27 : decode cX8_begins 27 = .ok (.iconst 0, 1) := by decide +kernel
theorem dX8_begins_28 : decode cX8_begins 28 = .ok (.ior, 1) := by decide +kernel
theorem dX8_begins_29 : decode cX8_begins 29 = .ok (.istore_n 1, 1) := by decide +kernel
theorem dX8_begins_30 : decode cX8_begins 30 = .ok (.iinc 2 1, 3) := by decide +kernel
theorem dX8_begins_33 : decode cX8_begins 33 = .ok (.goto (-29), 3) := by decide +kernel
theorem dX8_begins_36 : decode cX8_begins 36 = .ok (.iload_n 1, 1) := by decide +kernel
theorem dX8_begins_37 : decode cX8_begins 37 = .ok (.ireturn, 1) := by decide +kernel
set_option maxRecDepth 20000 in
theorem ggX8_readText_X8_readPart : GoodIn wsX8_readText wsX8_readPart := goodIn_r _ [13, 3, 1, 14, 4, 15, 2, 6, 5, 16, 17, 18, 12, 19, 20, 21, 22, 23, 7, 8, 24, 25, 26, 27, 28, 29, 30, 31, 32, 33, 34, 35, 36, 37, 38, 39, 40, 41, 42, 43, 44, 45, 46, 47, 48, 49, 50, 51, 52, 53, 54, 55, 56, 57, 58, 59, 60, 61, 62] (by decide +kernel) (by decide +kernel)
set_option maxRecDepth 20000 in
theorem gX8_readText_X8_readPart : GoodIn wsX8_readText (wsV RX8 94 RX8 yX8_readPart wsX8_readPart) := goodIn_app (goodIn_of _ (by decide +kernel)) ggX8_readText_X8_readPart
theorem dX8_readText_0 : decode cX8_readText 0 = .ok (.aload_n 0, 1) := by decide +kernel
theorem dX8_readText_1 : decode cX8_readText 1 = .ok (.iconst 0, 1) := by decide +kernel
theorem dX8_readText_2 : decode cX8_readText 2 = .ok (.putfield 72, 3) := by decide +kernel
theorem dX8_readText_5 : decode cX8_readText 5 = .ok (.aload_n 0, 1) := by decide +kernel
theorem dX8_readText_6 : decode cX8_readText 6 = .ok (.bipush (-9), 2) := by decide +kernel
theorem dX8_readText_8 : decode cX8_readText 8 = .ok (.putfield 69, 3) := by decide +kernel
theorem dX8_readText_11 : decode cX8_readText 11 = .ok (.aload_n 0, 1) := by decide +kernel
theorem dX8_readText_12 : decode cX8_readText 12 = .ok (.iconst 0, 1) := by decide +kernel
theorem dX8_readText_13 : decode cX8_readText 13 = .ok (.putfield 88, 3) := by decide +kernel
theorem dX8_readText_16 : decode cX8_readText 16 = .ok (.aload_n 0, 1) := by decide +kernel
theorem dX8_readText_17 : decode cX8_readText 17 = .ok (.iconst 0, 1) := by decide +kernel
theorem dX8_readText_18 : decode cX8_readText 18 = .ok (.putfield 81, 3) := by decide +kernel
theorem dX8_readText_21 : decode cX8_readText 21 = .ok (.aload_n 0, 1) := by decide +kernel
theorem dX8_readText_22 : decode cX8_readText 22 = .ok (.iconst 0, 1) := by decide +kernel
theorem dX8_readText_23 : decode cX8_readText 23 = .ok (.putfield 91, 3) := by decide +kernel
theorem dX8_readText_26 : decode cX8_readText 26 = .ok (.iconst 0, 1) := by decide +kernel
theorem dX8_readText_27 : decode cX8_readText 27 = .ok (.istore_n 1, 1) := by decide +kernel
theorem dX8_readText_28 : decode cX8_readText 28 = .ok (.iload_n 1, 1) := by decide +kernel
theorem dX8_readText_29 : decode cX8_readText 29 = .ok (.bipush 25, 2) := by decide +kernel
theorem dX8_readText_31 : decode cX8_readText 31 = .ok (.if_icmp .ge 16, 3) := by decide +kernel
theorem dX8_readText_34 : decode cX8_readText 34 = .ok (.aload_n 0, 1) := by decide +kernel
theorem dX8_readText_35 : decode cX8_readText 35 = .ok (.getfield 16, 3) := by decide +kernel
theorem dX8_readText_38 : decode cX8_readText 38 = .ok (.iload_n 1, 1) := by decide +kernel
theorem dX8_readText_39 : decode cX8_readText 39 = .ok (.iconst 0, 1) := by decide +kernel
theorem dX8_readText_40 : decode cX8_readText 40 = .ok (.iastore, 1) := by decide +kernel
theorem dX8_readText_41 : decode cX8_readText 41 = .ok (.iinc 1 1, 3) := by decide +kernel
theorem dX8_readText_44 : decode cX8_readText 44 = .ok (.goto (-16), 3) := by decide +kernel
theorem dX8_readText_47 : decode cX8_readText 47 = .ok (.aload_n 0, 1) := by decide +kernel
theorem dX8_readText_48 : decode cX8_readText 48 = .ok (.getfield 63, 3) := by decide +kernel
theorem dX8_readText_51 : decode cX8_readText 51 = .ok (.ifCond .eq 14, 3) := by decide +kernel
theorem dX8_readText_54 : decode cX8_readText 54 = .ok (.aload_n 0, 1) := by decide +kernel
theorem dX8_readText_55 : decode cX8_readText 55 = .ok (.getfield 28, 3) := by decide +kernel
theorem dX8_readText_58 : decode cX8_readText 58 = .ok (.iconst 0, 1) := by decide +kernel
theorem dX8_readText_59 : decode cX8_readText 59 = .ok (.iaload, 1) := by decide +kernel
theorem dX8_readText_60 : decode cX8_readText 60 = .ok (.bipush 65, 2) := by decide +kernel
theorem dX8_readText_62 : decode cX8_readText 62 = .ok (.if_icmp .eq 5, 3) := by decide +kernel
theorem dX8_readText_65 : decode cX8_readText 65 = .ok (.iconst 0, 1) := by decide +kernel
theorem dX8_readText_66 : decode cX8_readText 66 = .ok (.ireturn, 1) := by decide +kernel
theorem dX8_readText_67 : decode cX8_readText 67 = .ok (.aload_n 0, 1) := by decide +kernel
theorem dX8_readText_68 : decode cX8_readText 68 = .ok (.iconst 1, 1) := by decide +kernel
theorem dX8_readText_69 : decode cX8_readText 69 = .ok (.putfield 72, 3) := by decide +kernel
theorem dX8_readText_72 : decode cX8_readText 72 = .ok (.aload_n 0, 1) := by decide +kernel
theorem dX8_readText_73 : decode cX8_readText 73 = .ok (.getfield 69, 3) := by decide +kernel
theorem dX8_readText_76 : decode cX8_readText 76 = .ok (.bipush (-9), 2) := by decide +kernel
theorem dX8_readText_78 : decode cX8_readText 78 = .ok (.if_icmp .ne 30, 3) := by decide +kernel
theorem dX8_readText_81 : decode cX8_readText 81 = .ok (.aload_n 0, 1) := by decide +kernel
theorem dX8_readText_82 : decode cX8_readText 82 = .ok (.getfield 72, 3) := by decide +kernel
theorem dX8_readText_85 : decode cX8_readText 85 = .ok (.aload_n 0, 1) := by decide +kernel
theorem dX8_readText_86 : decode cX8_readText 86 = .ok (.getfield 63, 3) := by decide +kernel
theorem dX8_readText_89 : decode cX8_readText 89 = .ok (.if_icmp .ge 19, 3) := by decide +kernel
theorem dX8_readText_92 : decode cX8_readText 92 = .ok (.aload_n 0, 1) := by decide +kernel
theorem dX8_readText_93 : decode cX8_readText 93 = .ok (.aload_n 0, 1) := by decide +kernel
theorem dX8_readText_94 : decode cX8_readText 94 = .ok (.getfield 28, 3) := by decide +kernel
theorem dX8_readText_97 : decode cX8_readText 97 = .ok (.aload_n 0, 1) := by decide +kernel
theorem dX8_readText_98 : decode cX8_readText 98 = .ok (.getfield 72, 3) := by decide +kernel
theorem dX8_readText_101 : decode cX8_readText 101 = .ok (.iaload, 1) := by decide +kernel
theorem dX8_readText_102 : decode cX8_readText 102 = .ok (.invokevirtual 94, 3) := by decide +kernel
theorem dX8_readText_105 : decode cX8_readText 105 = .ok (.goto (-33), 3) := by decide +kernel
theorem dX8_readText_108 : decode cX8_readText 108 = .ok (.aload_n 0, 1) := by decide +kernel
theorem dX8_readText_109 : decode cX8_readText 109 = .ok (.getfield 69, 3) := by decide +kernel
theorem dX8_readText_112 : decode cX8_readText 112 = .ok (.ireturn, 1) := by decide +kernel
set_option maxRecDepth 20000 in
theorem ggX8_readPart_X8_figure : GoodIn wsX8_readPart wsX8_figure := goodIn_r _ [13, 14, 15, 16, 12, 17, 6, 2, 18, 19, 20, 21, 22, 23, 32, 33, 34, 35, 36, 37, 38, 39, 40, 41, 42, 43, 44, 45, 46, 47, 48, 49, 50, 51, 52, 53, 54, 55, 56, 57, 58] (by decide +kernel) (by decide +kernel)
set_option maxRecDepth 20000 in
theorem gX8_readPart_X8_figure : GoodIn wsX8_readPart (wsV RX8 98 RX8 yX8_figure wsX8_figure) := goodIn_app (goodIn_of _ (by decide +kernel)) ggX8_readPart_X8_figure
set_option maxRecDepth 20000 in
theorem ggX8_readPart_X8_sign : GoodIn wsX8_readPart wsX8_sign := goodIn_r _ [17, 6, 2, 18, 19, 20, 21, 22, 12, 23, 32, 33, 34, 35, 36, 37, 38, 39, 40, 41, 42, 43, 44, 45, 46, 47, 48, 49, 50, 51, 52, 53, 54, 55, 56, 57, 58] (by decide +kernel) (by decide +kernel)
set_option maxRecDepth 20000 in
theorem gX8_readPart_X8_sign : GoodIn wsX8_readPart (wsV RX8 77 RX8 yX8_sign wsX8_sign) := goodIn_app (goodIn_of _ (by decide +kernel)) ggX8_readPart_X8_sign
set_option maxRecDepth 20000 in
theorem ggX8_readPart_X8_begins : GoodIn wsX8_readPart wsX8_begins := goodIn_r _ [27, 4, 28, 29, 30, 12, 31, 7, 32, 33, 34, 35, 36, 37, 38, 39, 40, 41, 42, 43, 44, 45, 46, 47, 48, 49, 50, 51, 52, 53, 54, 55, 56, 57, 58] (by decide +kernel) (by decide +kernel)
set_option maxRecDepth 20000 in
theorem gX8_readPart_X8_begins : GoodIn wsX8_readPart (wsV RX8 101 RX8 yX8_begins wsX8_begins) := goodIn_app (goodIn_of _ (by decide +kernel)) ggX8_readPart_X8_begins
set_option maxRecDepth 20000 in
theorem ggX8_readPart_X8_open : GoodIn wsX8_readPart wsX8_open := goodIn_r _ [31, 4, 7, 32, 33, 34, 35, 36, 37, 38, 39, 40, 41, 42, 43, 44, 45, 46, 47, 48, 49, 50, 51, 52, 53, 54, 55, 56, 57, 58] (by decide +kernel) (by decide +kernel)
set_option maxRecDepth 20000 in
theorem gX8_readPart_X8_open : GoodIn wsX8_readPart (wsV RX8 84 RX8 yX8_open wsX8_open) := goodIn_app (goodIn_of _ (by decide +kernel)) ggX8_readPart_X8_open
theorem dX8_readPart_0 : decode cX8_readPart 0 = .ok (.iload_n 1, 1) := by decide +kernel
theorem dX8_readPart_1 : decode cX8_readPart 1 = .ok (.bipush 82, 2) := by decide +kernel
theorem dX8_readPart_3 : decode cX8_readPart 3 = .ok (.if_icmp .ne 81, 3) := by decide +kernel
theorem dX8_readPart_6 : decode cX8_readPart 6 = .ok (.aload_n 0, 1) := by decide +kernel
theorem dX8_readPart_7 : decode cX8_readPart 7 = .ok (.getfield 88, 3) := by decide +kernel
theorem dX8_readPart_10 : decode cX8_readPart 10 = .ok (.iconst 3, 1) := by decide +kernel
theorem dX8_readPart_11 : decode cX8_readPart 11 = .ok (.if_icmp .ge 73, 3) := by decide +kernel
theorem dX8_readPart_14 : decode cX8_readPart 14 = .ok (.aload_n 0, 1) := by decide +kernel
theorem dX8_readPart_15 : decode cX8_readPart 15 = .ok (.dup, 1) := by decide +kernel
theorem dX8_readPart_16 : decode cX8_readPart 16 = .ok (.getfield 72, 3) := by decide +kernel
theorem dX8_readPart_19 : decode cX8_readPart 19 = .ok (.iconst 1, 1) := by decide +kernel
theorem dX8_readPart_20 : decode cX8_readPart 20 = .ok (.iadd, 1) := by decide +kernel
theorem dX8_readPart_21 : decode cX8_readPart 21 = .ok (.putfield 72, 3) := by decide +kernel
theorem dX8_readPart_24 : decode cX8_readPart 24 = .ok (.aload_n 0, 1) := by decide +kernel
theorem dX8_readPart_25 : decode cX8_readPart 25 = .ok (.bipush 15, 2) := by decide +kernel
theorem dX8_readPart_27 : decode cX8_readPart 27 = .ok (.invokevirtual 98, 3) := by decide +kernel
theorem dX8_readPart_30 : decode cX8_readPart 30 = .ok (.istore_n 2, 1) := by decide +kernel
theorem dX8_readPart_31 : decode cX8_readPart 31 = .ok (.aload_n 0, 1) := by decide +kernel
theorem dX8_readPart_32 : decode cX8_readPart 32 = .ok (.getfield 7, 3) := by decide +kernel
theorem dX8_readPart_35 : decode cX8_readPart 35 = .ok (.aload_n 0, 1) := by decide +kernel
theorem dX8_readPart_36 : decode cX8_readPart 36 = .ok (.getfield 88, 3) := by decide +kernel
theorem dX8_readPart_39 : decode cX8_readPart 39 = .ok (.bipush 10, 2) := by decide +kernel
theorem dX8_readPart_41 : decode cX8_readPart 41 = .ok (.iload_n 2, 1) := by decide +kernel
theorem dX8_readPart_42 : decode cX8_readPart 42 = .ok (.imul, 1) := by decide +kernel
theorem dX8_readPart_43 : decode cX8_readPart 43 = .ok (.aload_n 0, 1) := by decide +kernel
theorem dX8_readPart_44 : decode cX8_readPart 44 = .ok (.iload_n 2, 1) := by decide +kernel
theorem dX8_readPart_45 : decode cX8_readPart 45 = .ok (.ifCond .ne 9, 3) := by decide +kernel
theorem dX8_readPart_48 : decode cX8_readPart 48 = .ok (.sipush 1022, 3) := by decide +kernel
theorem dX8_readPart_51 : decode cX8_readPart 51 = .ok (.goto 15, 3) := by decide +kernel
theorem dX8_readPart_54 : decode cX8_readPart 54 = .ok (.iload_n 2, 1) := by decide +kernel
theorem dX8_readPart_55 : decode cX8_readPart 55 = .ok (.iconst 3, 1) := by decide +kernel
theorem dX8_readPart_56 : decode cX8_readPart 56 = .ok (.if_icmp .ne 7, 3) := by decide +kernel
theorem dX8_readPart_59 : decode cX8_readPart 59 = .ok (.iconst 1, 1) := by decide +kernel
theorem dX8_readPart_60 : decode cX8_readPart 60 = .ok (.goto 6, 3) := by decide +kernel
theorem dX8_readPart_63 : decode cX8_readPart 63 = .ok (.sipush 1023, 3) := by decide +kernel
theorem dX8_readPart_66 : decode cX8_readPart 66 = .ok (.invokevirtual 98, 3) := by decide +kernel
theorem dX8_readPart_69 : decode cX8_readPart 69 = .ok (.iadd, 1) := by decide +kernel
theorem dX8_readPart_70 : decode cX8_readPart 70 = .ok (.iastore, 1) := by decide +kernel
theorem dX8_readPart_71 : decode cX8_readPart 71 = .ok (.aload_n 0, 1) := by decide +kernel
theorem dX8_readPart_72 : decode cX8_readPart 72 = .ok (.dup, 1) := by decide +kernel
theorem dX8_readPart_73 : decode cX8_readPart 73 = .ok (.getfield 88, 3) := by decide +kernel
theorem dX8_readPart_76 : decode cX8_readPart 76 = .ok (.iconst 1, 1) := by decide +kernel
theorem dX8_readPart_77 : decode cX8_readPart 77 = .ok (.iadd, 1) := by decide +kernel
theorem dX8_readPart_78 : decode cX8_readPart 78 = .ok (.putfield 88, 3) := by decide +kernel
theorem dX8_readPart_81 : decode cX8_readPart 81 = .ok (.goto 223, 3) := by decide +kernel
theorem dX8_readPart_84 : decode cX8_readPart 84 = .ok (.iload_n 1, 1) := by decide +kernel
theorem dX8_readPart_85 : decode cX8_readPart 85 = .ok (.bipush 80, 2) := by decide +kernel
theorem dX8_readPart_87 : decode cX8_readPart 87 = .ok (.if_icmp .ne 112, 3) := by decide +kernel
theorem dX8_readPart_90 : decode cX8_readPart 90 = .ok (.aload_n 0, 1) := by decide +kernel
theorem dX8_readPart_91 : decode cX8_readPart 91 = .ok (.getfield 81, 3) := by decide +kernel
theorem dX8_readPart_94 : decode cX8_readPart 94 = .ok (.iconst 5, 1) := by decide +kernel
theorem dX8_readPart_95 : decode cX8_readPart 95 = .ok (.if_icmp .ge 104, 3) := by decide +kernel
theorem dX8_readPart_98 : decode cX8_readPart 98 = .ok (.aload_n 0, 1) := by decide +kernel
theorem dX8_readPart_99 : decode cX8_readPart 99 = .ok (.getfield 88, 3) := by decide +kernel
theorem dX8_readPart_102 : decode cX8_readPart 102 = .ok (.ifCond .le 97, 3) := by decide +kernel
theorem dX8_readPart_105 : decode cX8_readPart 105 = .ok (.aload_n 0, 1) := by decide +kernel
theorem dX8_readPart_106 : decode cX8_readPart 106 = .ok (.dup, 1) := by decide +kernel
theorem dX8_readPart_107 : decode cX8_readPart 107 = .ok (.getfield 72, 3) := by decide +kernel
theorem dX8_readPart_110 : decode cX8_readPart 110 = .ok (.iconst 1, 1) := by decide +kernel
theorem dX8_readPart_111 : decode cX8_readPart 111 = .ok (.iadd, 1) := by decide +kernel
theorem dX8_readPart_112 : decode cX8_readPart 112 = .ok (.putfield 72, 3) := by decide +kernel
theorem dX8_readPart_115 : decode cX8_readPart 115 = .ok (.iconst 4, 1) := by decide +kernel
theorem dX8_readPart_116 : decode cX8_readPart 116 = .ok (.aload_n 0, 1) := by decide +kernel
theorem dX8_readPart_117 : decode cX8_readPart 117 = .ok (.getfield 81, 3) := by decide +kernel
theorem dX8_readPart_120 : decode cX8_readPart 120 = .ok (.imul, 1) := by decide +kernel
theorem dX8_readPart_121 : decode cX8_readPart 121 = .ok (.istore_n 2, 1) := by decide +kernel
theorem dX8_readPart_122 : decode cX8_readPart 122 = .ok (.aload_n 0, 1) := by decide +kernel
theorem dX8_readPart_123 : decode cX8_readPart 123 = .ok (.getfield 13, 3) := by decide +kernel
theorem dX8_readPart_126 : decode cX8_readPart 126 = .ok (.iload_n 2, 1) := by decide +kernel
theorem dX8_readPart_127 : decode cX8_readPart 127 = .ok (.aload_n 0, 1) := by decide +kernel
theorem dX8_readPart_128 : decode cX8_readPart 128 = .ok (.iconst 1, 1) := by decide +kernel
theorem dX8_readPart_129 : decode cX8_readPart 129 = .ok (.aload_n 0, 1) := by decide +kernel
theorem dX8_readPart_130 : decode cX8_readPart 130 = .ok (.getfield 88, 3) := by decide +kernel
theorem dX8_readPart_133 : decode cX8_readPart 133 = .ok (.ishl, 1) := by decide +kernel
theorem dX8_readPart_134 : decode cX8_readPart 134 = .ok (.iconst 1, 1) := by decide +kernel
theorem dX8_readPart_135 : decode cX8_readPart 135 = .ok (.isub, 1) := by decide +kernel
theorem dX8_readPart_136 : decode cX8_readPart 136 = .ok (.invokevirtual 98, 3) := by decide +kernel
theorem dX8_readPart_139 : decode cX8_readPart 139 = .ok (.iastore, 1) := by decide +kernel
theorem dX8_readPart_140 : decode cX8_readPart 140 = .ok (.aload_n 0, 1) := by decide +kernel
theorem dX8_readPart_141 : decode cX8_readPart 141 = .ok (.getfield 13, 3) := by decide +kernel
theorem dX8_readPart_144 : decode cX8_readPart 144 = .ok (.iload_n 2, 1) := by decide +kernel
theorem dX8_readPart_145 : decode cX8_readPart 145 = .ok (.iconst 1, 1) := by decide +kernel
theorem dX8_readPart_146 : decode cX8_readPart 146 = .ok (.iadd, 1) := by decide +kernel
theorem dX8_readPart_147 : decode cX8_readPart 147 = .ok (.aload_n 0, 1) := by decide +kernel
theorem dX8_readPart_148 : decode cX8_readPart 148 = .ok (.bipush 97, 2) := by decide +kernel
theorem dX8_readPart_150 : decode cX8_readPart 150 = .ok (.bipush 15, 2) := by decide +kernel
theorem dX8_readPart_152 : decode cX8_readPart 152 = .ok (.invokevirtual 77, 3) := by decide +kernel
theorem dX8_readPart_155 : decode cX8_readPart 155 = .ok (.iastore, 1) := by decide +kernel
theorem dX8_readPart_156 : decode cX8_readPart 156 = .ok (.aload_n 0, 1) := by decide +kernel
theorem dX8_readPart_157 : decode cX8_readPart 157 = .ok (.getfield 13, 3) := by decide +kernel
theorem dX8_readPart_160 : decode cX8_readPart 160 = .ok (.iload_n 2, 1) := by decide +kernel
theorem dX8_readPart_161 : decode cX8_readPart 161 = .ok (.iconst 2, 1) := by decide +kernel
theorem dX8_readPart_162 : decode cX8_readPart 162 = .ok (.iadd, 1) := by decide +kernel
theorem dX8_readPart_163 : decode cX8_readPart 163 = .ok (.aload_n 0, 1) := by decide +kernel
theorem dX8_readPart_164 : decode cX8_readPart 164 = .ok (.sipush 1023, 3) := by decide +kernel
theorem dX8_readPart_167 : decode cX8_readPart 167 = .ok (.invokevirtual 98, 3) := by decide +kernel
theorem dX8_readPart_170 : decode cX8_readPart 170 = .ok (.iastore, 1) := by decide +kernel
theorem dX8_readPart_171 : decode cX8_readPart 171 = .ok (.aload_n 0, 1) := by decide +kernel
theorem dX8_readPart_172 : decode cX8_readPart 172 = .ok (.getfield 13, 3) := by decide +kernel
theorem dX8_readPart_175 : decode cX8_readPart 175 = .ok (.iload_n 2, 1) := by decide +kernel
theorem dX8_readPart_176 : decode cX8_readPart 176 = .ok (.iconst 3, 1) := by decide +kernel
theorem dX8_readPart_177 : decode cX8_readPart 177 = .ok (.iadd, 1) := by decide +kernel
theorem dX8_readPart_178 : decode cX8_readPart 178 = .ok (.aload_n 0, 1) := by decide +kernel
theorem dX8_readPart_179 : decode cX8_readPart 179 = .ok (.sipush 1023, 3) := by decide +kernel
theorem dX8_readPart_182 : decode cX8_readPart 182 = .ok (.invokevirtual 98, 3) := by decide +kernel
theorem dX8_readPart_185 : decode cX8_readPart 185 = .ok (.iastore, 1) := by decide +kernel
theorem dX8_readPart_186 : decode cX8_readPart 186 = .ok (.aload_n 0, 1) := by decide +kernel
theorem dX8_readPart_187 : decode cX8_readPart 187 = .ok (.dup, 1) := by decide +kernel
theorem dX8_readPart_188 : decode cX8_readPart 188 = .ok (.getfield 81, 3) := by decide +kernel
theorem dX8_readPart_191 : decode cX8_readPart 191 = .ok (.iconst 1, 1) := by decide +kernel
theorem dX8_readPart_192 : decode cX8_readPart 192 = .ok (.iadd, 1) := by decide +kernel
theorem dX8_readPart_193 : decode cX8_readPart 193 = .ok (.putfield 81, 3) := by decide +kernel
theorem dX8_readPart_196 : decode cX8_readPart 196 = .ok (.goto 108, 3) := by decide +kernel
theorem dX8_readPart_199 : decode cX8_readPart 199 = .ok (.iload_n 1, 1) := by decide +kernel
theorem dX8_readPart_200 : decode cX8_readPart 200 = .ok (.bipush 81, 2) := by decide +kernel
theorem dX8_readPart_202 : decode cX8_readPart 202 = .ok (.if_icmp .ne 94, 3) := by decide +kernel
theorem dX8_readPart_205 : decode cX8_readPart 205 = .ok (.aload_n 0, 1) := by decide +kernel
theorem dX8_readPart_206 : decode cX8_readPart 206 = .ok (.invokevirtual 101, 3) := by decide +kernel
theorem dX8_readPart_209 : decode cX8_readPart 209 = .ok (.ifCond .eq 87, 3) := by decide +kernel
theorem dX8_readPart_212 : decode cX8_readPart 212 = .ok (.aload_n 0, 1) := by decide +kernel
theorem dX8_readPart_213 : decode cX8_readPart 213 = .ok (.dup, 1) := by decide +kernel
theorem dX8_readPart_214 : decode cX8_readPart 214 = .ok (.getfield 72, 3) := by decide +kernel
theorem dX8_readPart_217 : decode cX8_readPart 217 = .ok (.iconst 1, 1) := by decide +kernel
theorem dX8_readPart_218 : decode cX8_readPart 218 = .ok (.iadd, 1) := by decide +kernel
theorem dX8_readPart_219 : decode cX8_readPart 219 = .ok (.putfield 72, 3) := by decide +kernel
theorem dX8_readPart_222 : decode cX8_readPart 222 = .ok (.aload_n 0, 1) := by decide +kernel
theorem dX8_readPart_223 : decode cX8_readPart 223 = .ok (.aload_n 0, 1) := by decide +kernel
theorem dX8_readPart_224 : decode cX8_readPart 224 = .ok (.invokevirtual 101, 3) := by decide +kernel
theorem dX8_readPart_227 : decode cX8_readPart 227 = .ok (.invokevirtual 98, 3) := by decide +kernel
theorem dX8_readPart_230 : decode cX8_readPart 230 = .ok (.istore_n 2, 1) := by decide +kernel
theorem dX8_readPart_231 : decode cX8_readPart 231 = .ok (.aload_n 0, 1) := by decide +kernel
theorem dX8_readPart_232 : decode cX8_readPart 232 = .ok (.aload_n 0, 1) := by decide +kernel
theorem dX8_readPart_233 : decode cX8_readPart 233 = .ok (.iload_n 2, 1) := by decide +kernel
theorem dX8_readPart_234 : decode cX8_readPart 234 = .ok (.invokevirtual 84, 3) := by decide +kernel
theorem dX8_readPart_237 : decode cX8_readPart 237 = .ok (.invokevirtual 98, 3) := by decide +kernel
theorem dX8_readPart_240 : decode cX8_readPart 240 = .ok (.istore_n 3, 1) := by decide +kernel
theorem dX8_readPart_241 : decode cX8_readPart 241 = .ok (.aload_n 0, 1) := by decide +kernel
theorem dX8_readPart_242 : decode cX8_readPart 242 = .ok (.sipush 1022, 3) := by decide +kernel
theorem dX8_readPart_245 : decode cX8_readPart 245 = .ok (.invokevirtual 98, 3) := by decide +kernel
theorem dX8_readPart_248 : decode cX8_readPart 248 = .ok (.istore 4, 2) := by decide +kernel
theorem dX8_readPart_250 : decode cX8_readPart 250 = .ok (.aload_n 0, 1) := by decide +kernel
theorem dX8_readPart_251 : decode cX8_readPart 251 = .ok (.getfield 69, 3) := by decide +kernel
theorem dX8_readPart_254 : decode cX8_readPart 254 = .ok (.bipush (-9), 2) := by decide +kernel
theorem dX8_readPart_256 : decode cX8_readPart 256 = .ok (.if_icmp .ne 37, 3) := by decide +kernel
theorem dX8_readPart_259 : decode cX8_readPart 259 = .ok (.aload_n 0, 1) := by decide +kernel
theorem dX8_readPart_260 : decode cX8_readPart 260 = .ok (.getfield 16, 3) := by decide +kernel
theorem dX8_readPart_263 : decode cX8_readPart 263 = .ok (.iconst 5, 1) := by decide +kernel
theorem dX8_readPart_264 : decode cX8_readPart 264 = .ok (.iload_n 2, 1) := by decide +kernel
theorem dX8_readPart_265 : decode cX8_readPart 265 = .ok (.imul, 1) := by decide +kernel
theorem dX8_readPart_266 : decode cX8_readPart 266 = .ok (.iload_n 3, 1) := by decide +kernel
theorem dX8_readPart_267 : decode cX8_readPart 267 = .ok (.iadd, 1) := by decide +kernel
theorem dX8_readPart_268 : decode cX8_readPart 268 = .ok (.iload 4, 2) := by decide +kernel
theorem dX8_readPart_270 : decode cX8_readPart 270 = .ok (.iastore, 1) := by decide +kernel
theorem dX8_readPart_271 : decode cX8_readPart 271 = .ok (.aload_n 0, 1) := by decide +kernel
theorem dX8_readPart_272 : decode cX8_readPart 272 = .ok (.getfield 16, 3) := by decide +kernel
theorem dX8_readPart_275 : decode cX8_readPart 275 = .ok (.iconst 5, 1) := by decide +kernel
theorem dX8_readPart_276 : decode cX8_readPart 276 = .ok (.iload_n 3, 1) := by decide +kernel
theorem dX8_readPart_277 : decode cX8_readPart 277 = .ok (.imul, 1) := by decide +kernel
theorem dX8_readPart_278 : decode cX8_readPart 278 = .ok (.iload_n 2, 1) := by decide +kernel
theorem dX8_readPart_279 : decode cX8_readPart 279 = .ok (.iadd, 1) := by decide +kernel
theorem dX8_readPart_280 : decode cX8_readPart 280 = .ok (.iload 4, 2) := by decide +kernel
theorem dX8_readPart_282 : decode cX8_readPart 282 = .ok (.iastore, 1) := by decide +kernel
theorem dX8_readPart_283 : decode cX8_readPart 283 = .ok (.aload_n 0, 1) := by decide +kernel
theorem dX8_readPart_284 : decode cX8_readPart 284 = .ok (.dup, 1) := by decide +kernel
theorem dX8_readPart_285 : decode cX8_readPart 285 = .ok (.getfield 91, 3) := by decide +kernel
theorem dX8_readPart_288 : decode cX8_readPart 288 = .ok (.iconst 1, 1) := by decide +kernel
theorem dX8_readPart_289 : decode cX8_readPart 289 = .ok (.iadd, 1) := by decide +kernel
theorem dX8_readPart_290 : decode cX8_readPart 290 = .ok (.putfield 91, 3) := by decide +kernel
theorem dX8_readPart_293 : decode cX8_readPart 293 = .ok (.goto 11, 3) := by decide +kernel
theorem dX8_readPart_296 : decode cX8_readPart 296 = .ok (.aload_n 0, 1) := by decide +kernel
theorem dX8_readPart_297 : decode cX8_readPart 297 = .ok (.aload_n 0, 1) := by decide +kernel
theorem dX8_readPart_298 : decode cX8_readPart 298 = .ok (.getfield 72, 3) := by decide +kernel
theorem dX8_readPart_301 : decode cX8_readPart 301 = .ok (.putfield 69, 3) := by decide +kernel
theorem dX8_readPart_304 : decode cX8_readPart 304 = .ok (.return_, 1) := by decide +kernel
set_option maxRecDepth 20000 in
theorem ggX8_fault_X8_readText : GoodIn wsX8_fault wsX8_readText := goodIn_r _ [5, 6, 7, 8, 9, 10, 11, 12, 13, 14, 15, 16, 4, 17, 18, 19, 20, 21, 22, 23, 24, 25, 26, 27, 28, 29, 30, 31, 32, 33, 34, 35, 36, 37, 38, 39, 40, 41, 42, 43, 44, 45, 46, 47, 48, 49, 50, 51, 52, 53, 54, 55, 56, 57, 58, 59, 60, 61, 62, 63, 64, 65, 66] (by decide +kernel) (by decide +kernel)
set_option maxRecDepth 20000 in
theorem gX8_fault_X8_readText : GoodIn wsX8_fault (wsV RX8 105 RX8 yX8_readText wsX8_readText) := goodIn_app (goodIn_of _ (by decide +kernel)) ggX8_fault_X8_readText
theorem dX8_fault_0 : decode cX8_fault 0 = .ok (.aload_n 0, 1) := by decide +kernel
theorem dX8_fault_1 : decode cX8_fault 1 = .ok (.invokevirtual 105, 3) := by decide +kernel
theorem dX8_fault_4 : decode cX8_fault 4 = .ok (.ireturn, 1) := by decide +kernel
set_option maxRecDepth 20000 in
theorem ggX8_house_X8_readText : GoodIn wsX8_house wsX8_readText := goodIn_r _ [20, 21, 22, 1, 3, 5, 12, 23, 24, 25, 26, 27, 19, 28, 8, 10, 29, 30, 31, 32, 33, 34, 35, 36, 37, 38, 39, 40, 41, 42, 43, 44, 45, 46, 47, 48, 49, 50, 51, 52, 53, 54, 55, 56, 57, 58, 59, 60, 61, 62, 63, 64, 65, 66, 67, 68, 69, 70, 71, 72, 73, 74, 75] (by decide +kernel) (by decide +kernel)
set_option maxRecDepth 20000 in
theorem gX8_house_X8_readText : GoodIn wsX8_house (wsV RX8 105 RX8 yX8_readText wsX8_readText) := goodIn_app (goodIn_of _ (by decide +kernel)) ggX8_house_X8_readText
theorem dX8_house_0 : decode cX8_house 0 = .ok (.aload_n 0, 1) := by decide +kernel
theorem dX8_house_1 : decode cX8_house 1 = .ok (.invokevirtual 105, 3) := by decide +kernel
theorem dX8_house_4 : decode cX8_house 4 = .ok (.bipush (-9), 2) := by decide +kernel
theorem dX8_house_6 : decode cX8_house 6 = .ok (.if_icmp .eq 6, 3) := by decide +kernel
theorem dX8_house_9 : decode cX8_house 9 = .ok (.bipush (-3), 2) := by decide +kernel
theorem dX8_house_11 : decode cX8_house 11 = .ok (.ireturn, 1) := by decide +kernel
theorem dX8_house_12 : decode cX8_house 12 = .ok (.aload_n 0, 1) := by decide +kernel
theorem dX8_house_13 : decode cX8_house 13 = .ok (.aload_n 0, 1) := by decide +kernel
theorem dX8_house_14 : decode cX8_house 14 = .ok (.getfield 88, 3) := by decide +kernel
theorem dX8_house_17 : decode cX8_house 17 = .ok (.putfield 108, 3) := by decide +kernel
theorem dX8_house_20 : decode cX8_house 20 = .ok (.aload_n 0, 1) := by decide +kernel
theorem dX8_house_21 : decode cX8_house 21 = .ok (.aload_n 0, 1) := by decide +kernel
theorem dX8_house_22 : decode cX8_house 22 = .ok (.getfield 81, 3) := by decide +kernel
theorem dX8_house_25 : decode cX8_house 25 = .ok (.putfield 111, 3) := by decide +kernel
theorem dX8_house_28 : decode cX8_house 28 = .ok (.aload_n 0, 1) := by decide +kernel
theorem dX8_house_29 : decode cX8_house 29 = .ok (.aload_n 0, 1) := by decide +kernel
theorem dX8_house_30 : decode cX8_house 30 = .ok (.getfield 91, 3) := by decide +kernel
theorem dX8_house_33 : decode cX8_house 33 = .ok (.putfield 114, 3) := by decide +kernel
theorem dX8_house_36 : decode cX8_house 36 = .ok (.iconst 0, 1) := by decide +kernel
theorem dX8_house_37 : decode cX8_house 37 = .ok (.istore_n 1, 1) := by decide +kernel
theorem dX8_house_38 : decode cX8_house 38 = .ok (.iload_n 1, 1) := by decide +kernel
theorem dX8_house_39 : decode cX8_house 39 = .ok (.iconst 3, 1) := by decide +kernel
theorem dX8_house_40 : decode cX8_house 40 = .ok (.if_icmp .ge 21, 3) := by decide +kernel
theorem dX8_house_43 : decode cX8_house 43 = .ok (.aload_n 0, 1) := by decide +kernel
theorem dX8_house_44 : decode cX8_house 44 = .ok (.getfield 19, 3) := by decide +kernel
theorem dX8_house_47 : decode cX8_house 47 = .ok (.iload_n 1, 1) := by decide +kernel
theorem dX8_house_48 : decode cX8_house 48 = .ok (.aload_n 0, 1) := by decide +kernel
theorem dX8_house_49 : decode cX8_house 49 = .ok (.getfield 7, 3) := by decide +kernel
theorem dX8_house_52 : decode cX8_house 52 = .ok (.iload_n 1, 1) := by decide +kernel
theorem dX8_house_53 : decode cX8_house 53 = .ok (.iaload, 1) := by decide +kernel
theorem dX8_house_54 : decode cX8_house 54 = .ok (.iastore, 1) := by decide +kernel
theorem dX8_house_55 : decode cX8_house 55 = .ok (.iinc 1 1, 3) := by decide +kernel
theorem dX8_house_58 : decode cX8_house 58 = .ok (.goto (-20), 3) := by decide +kernel
theorem dX8_house_61 : decode cX8_house 61 = .ok (.iconst 0, 1) := by decide +kernel
theorem dX8_house_62 : decode cX8_house 62 = .ok (.istore_n 1, 1) := by decide +kernel
theorem dX8_house_63 : decode cX8_house 63 = .ok (.iload_n 1, 1) := by decide +kernel
theorem dX8_house_64 : decode cX8_house 64 = .ok (.bipush 20, 2) := by decide +kernel
theorem dX8_house_66 : decode cX8_house 66 = .ok (.if_icmp .ge 21, 3) := by decide +kernel
theorem dX8_house_69 : decode cX8_house 69 = .ok (.aload_n 0, 1) := by decide +kernel
theorem dX8_house_70 : decode cX8_house 70 = .ok (.getfield 22, 3) := by decide +kernel
theorem dX8_house_73 : decode cX8_house 73 = .ok (.iload_n 1, 1) := by decide +kernel
theorem dX8_house_74 : decode cX8_house 74 = .ok (.aload_n 0, 1) := by decide +kernel
theorem dX8_house_75 : decode cX8_house 75 = .ok (.getfield 13, 3) := by decide +kernel
theorem dX8_house_78 : decode cX8_house 78 = .ok (.iload_n 1, 1) := by decide +kernel
theorem dX8_house_79 : decode cX8_house 79 = .ok (.iaload, 1) := by decide +kernel
theorem dX8_house_80 : decode cX8_house 80 = .ok (.iastore, 1) := by decide +kernel
theorem dX8_house_81 : decode cX8_house 81 = .ok (.iinc 1 1, 3) := by decide +kernel
theorem dX8_house_84 : decode cX8_house 84 = .ok (.goto (-21), 3) := by decide +kernel
theorem dX8_house_87 : decode cX8_house 87 = .ok (.iconst 0, 1) := by decide +kernel
theorem dX8_house_88 : decode cX8_house 88 = .ok (.istore_n 1, 1) := by decide +kernel
theorem dX8_house_89 : decode cX8_house 89 = .ok (.iload_n 1, 1) := by decide +kernel
theorem dX8_house_90 : decode cX8_house 90 = .ok (.bipush 25, 2) := by decide +kernel
theorem dX8_house_92 : decode cX8_house 92 = .ok (.if_icmp .ge 21, 3) := by decide +kernel
theorem dX8_house_95 : decode cX8_house 95 = .ok (.aload_n 0, 1) := by decide +kernel
theorem dX8_house_96 : decode cX8_house 96 = .ok (.getfield 25, 3) := by decide +kernel
theorem dX8_house_99 : decode cX8_house 99 = .ok (.iload_n 1, 1) := by decide +kernel
theorem dX8_house_100 : decode cX8_house 100 = .ok (.aload_n 0, 1) := by decide +kernel
theorem dX8_house_101 : decode cX8_house 101 = .ok (.getfield 16, 3) := by decide +kernel
theorem dX8_house_104 : decode cX8_house 104 = .ok (.iload_n 1, 1) := by decide +kernel
theorem dX8_house_105 : decode cX8_house 105 = .ok (.iaload, 1) := by decide +kernel
theorem dX8_house_106 : decode cX8_house 106 = .ok (.iastore, 1) := by decide +kernel
theorem dX8_house_107 : decode cX8_house 107 = .ok (.iinc 1 1, 3) := by decide +kernel
theorem dX8_house_110 : decode cX8_house 110 = .ok (.goto (-21), 3) := by decide +kernel
theorem dX8_house_113 : decode cX8_house 113 = .ok (.iconst 0, 1) := by decide +kernel
theorem dX8_house_114 : decode cX8_house 114 = .ok (.istore_n 1, 1) := by decide +kernel
theorem dX8_house_115 : decode cX8_house 115 = .ok (.iload_n 1, 1) := by decide +kernel
theorem dX8_house_116 : decode cX8_house 116 = .ok (.bipush 97, 2) := by decide +kernel
theorem dX8_house_118 : decode cX8_house 118 = .ok (.if_icmp .ge 16, 3) := by decide +kernel
theorem dX8_house_121 : decode cX8_house 121 = .ok (.aload_n 0, 1) := by decide +kernel
theorem dX8_house_122 : decode cX8_house 122 = .ok (.getfield 31, 3) := by decide +kernel
theorem dX8_house_125 : decode cX8_house 125 = .ok (.iload_n 1, 1) := by decide +kernel
theorem dX8_house_126 : decode cX8_house 126 = .ok (.iconst 0, 1) := by decide +kernel
theorem dX8_house_127 : decode cX8_house 127 = .ok (.iastore, 1) := by decide +kernel
theorem dX8_house_128 : decode cX8_house 128 = .ok (.iinc 1 1, 3) := by decide +kernel
theorem dX8_house_131 : decode cX8_house 131 = .ok (.goto (-16), 3) := by decide +kernel
theorem dX8_house_134 : decode cX8_house 134 = .ok (.aload_n 0, 1) := by decide +kernel
theorem dX8_house_135 : decode cX8_house 135 = .ok (.iconst 0, 1) := by decide +kernel
theorem dX8_house_136 : decode cX8_house 136 = .ok (.putfield 117, 3) := by decide +kernel
theorem dX8_house_139 : decode cX8_house 139 = .ok (.aload_n 0, 1) := by decide +kernel
theorem dX8_house_140 : decode cX8_house 140 = .ok (.getfield 50, 3) := by decide +kernel
theorem dX8_house_143 : decode cX8_house 143 = .ok (.iconst 0, 1) := by decide +kernel
theorem dX8_house_144 : decode cX8_house 144 = .ok (.iconst 0, 1) := by decide +kernel
theorem dX8_house_145 : decode cX8_house 145 = .ok (.bastore, 1) := by decide +kernel
theorem dX8_house_146 : decode cX8_house 146 = .ok (.aload_n 0, 1) := by decide +kernel
theorem dX8_house_147 : decode cX8_house 147 = .ok (.getfield 50, 3) := by decide +kernel
theorem dX8_house_150 : decode cX8_house 150 = .ok (.iconst 1, 1) := by decide +kernel
theorem dX8_house_151 : decode cX8_house 151 = .ok (.iconst 0, 1) := by decide +kernel
theorem dX8_house_152 : decode cX8_house 152 = .ok (.bastore, 1) := by decide +kernel
theorem dX8_house_153 : decode cX8_house 153 = .ok (.bipush 10, 2) := by decide +kernel
theorem dX8_house_155 : decode cX8_house 155 = .ok (.aload_n 0, 1) := by decide +kernel
theorem dX8_house_156 : decode cX8_house 156 = .ok (.getfield 108, 3) := by decide +kernel
theorem dX8_house_159 : decode cX8_house 159 = .ok (.imul, 1) := by decide +kernel
theorem dX8_house_160 : decode cX8_house 160 = .ok (.aload_n 0, 1) := by decide +kernel
theorem dX8_house_161 : decode cX8_house 161 = .ok (.getfield 111, 3) := by decide +kernel
theorem dX8_house_164 : decode cX8_house 164 = .ok (.iadd, 1) := by decide +kernel
theorem dX8_house_165 : decode cX8_house 165 = .ok (.ireturn, 1) := by decide +kernel
set_option maxRecDepth 20000 in
theorem ggX8_isRoom_X8_in : GoodIn wsX8_isRoom wsX8_in := goodIn_r _ [5] (by decide +kernel) (by decide +kernel)
set_option maxRecDepth 20000 in
theorem gX8_isRoom_X8_in : GoodIn wsX8_isRoom (va_wsS RX8 59 yX8_in wsX8_in) := goodIn_app (goodIn_of _ (by decide +kernel)) ggX8_isRoom_X8_in
theorem dX8_isRoom_0 : decode cX8_isRoom 0 = .ok (.iload_n 1, 1) := by decide +kernel
theorem dX8_isRoom_1 : decode cX8_isRoom 1 = .ok (.i2l, 1) := by decide +kernel
theorem dX8_isRoom_2 : decode cX8_isRoom 2 = .ok (.lconst 0, 1) := by decide +kernel
theorem dX8_isRoom_3 : decode cX8_isRoom 3 = .ok (.aload_n 0, 1) := by decide +kernel
theorem dX8_isRoom_4 : decode cX8_isRoom 4 = .ok (.getfield 108, 3) := by decide +kernel
theorem dX8_isRoom_7 : decode cX8_isRoom 7 = .ok (.iconst 1, 1) := by decide +kernel
theorem dX8_isRoom_8 : decode cX8_isRoom 8 = .ok (.isub, 1) := by decide +kernel
theorem dX8_isRoom_9 : decode cX8_isRoom 9 = .ok (.i2l, 1) := by decide +kernel
theorem dX8_isRoom_10 : decode cX8_isRoom 10 = .ok (.invokestatic 59, 3) := by decide +kernel
theorem dX8_isRoom_13 : decode cX8_isRoom 13 = .ok (.ireturn, 1) := by decide +kernel
set_option maxRecDepth 20000 in
theorem ggX8_isPerson_X8_in : GoodIn wsX8_isPerson wsX8_in := goodIn_r _ [5] (by decide +kernel) (by decide +kernel)
set_option maxRecDepth 20000 in
theorem gX8_isPerson_X8_in : GoodIn wsX8_isPerson (va_wsS RX8 59 yX8_in wsX8_in) := goodIn_app (goodIn_of _ (by decide +kernel)) ggX8_isPerson_X8_in
theorem dX8_isPerson_0 : decode cX8_isPerson 0 = .ok (.iload_n 1, 1) := by decide +kernel
theorem dX8_isPerson_1 : decode cX8_isPerson 1 = .ok (.i2l, 1) := by decide +kernel
theorem dX8_isPerson_2 : decode cX8_isPerson 2 = .ok (.lconst 0, 1) := by decide +kernel
theorem dX8_isPerson_3 : decode cX8_isPerson 3 = .ok (.aload_n 0, 1) := by decide +kernel
theorem dX8_isPerson_4 : decode cX8_isPerson 4 = .ok (.getfield 111, 3) := by decide +kernel
theorem dX8_isPerson_7 : decode cX8_isPerson 7 = .ok (.iconst 1, 1) := by decide +kernel
theorem dX8_isPerson_8 : decode cX8_isPerson 8 = .ok (.isub, 1) := by decide +kernel
theorem dX8_isPerson_9 : decode cX8_isPerson 9 = .ok (.i2l, 1) := by decide +kernel
theorem dX8_isPerson_10 : decode cX8_isPerson 10 = .ok (.invokestatic 59, 3) := by decide +kernel
theorem dX8_isPerson_13 : decode cX8_isPerson 13 = .ok (.ireturn, 1) := by decide +kernel
theorem dX8_isDone_0 : decode cX8_isDone 0 = .ok (.aload_n 0, 1) := by decide +kernel
theorem dX8_isDone_1 : decode cX8_isDone 1 = .ok (.getfield 31, 3) := by decide +kernel
theorem dX8_isDone_4 : decode cX8_isDone 4 = .ok (.bipush 97, 2) := by decide +kernel
theorem dX8_isDone_6 : decode cX8_isDone 6 = .ok (.iload_n 1, 1) := by decide +kernel
theorem dX8_isDone_7 : decode cX8_isDone 7 = .ok (.imul, 1) := by decide +kernel
theorem dX8_isDone_8 : decode cX8_isDone 8 = .ok (.bipush 90, 2) := by decide +kernel
theorem dX8_isDone_10 : decode cX8_isDone 10 = .ok (.iadd, 1) := by decide +kernel
theorem dX8_isDone_11 : decode cX8_isDone 11 = .ok (.iload_n 2, 1) := by decide +kernel
theorem dX8_isDone_12 : decode cX8_isDone 12 = .ok (.iadd, 1) := by decide +kernel
theorem dX8_isDone_13 : decode cX8_isDone 13 = .ok (.iaload, 1) := by decide +kernel
theorem dX8_isDone_14 : decode cX8_isDone 14 = .ok (.aload_n 0, 1) := by decide +kernel
theorem dX8_isDone_15 : decode cX8_isDone 15 = .ok (.getfield 19, 3) := by decide +kernel
theorem dX8_isDone_18 : decode cX8_isDone 18 = .ok (.iload_n 2, 1) := by decide +kernel
theorem dX8_isDone_19 : decode cX8_isDone 19 = .ok (.iaload, 1) := by decide +kernel
theorem dX8_isDone_20 : decode cX8_isDone 20 = .ok (.if_icmp .ne 7, 3) := by decide +kernel
theorem dX8_isDone_23 : decode cX8_isDone 23 = .ok (.iconst 1, 1) := by decide +kernel
theorem dX8_isDone_24 : decode cX8_isDone 24 = .ok (.goto 4, 3) := by decide +kernel
theorem dX8_isDone_27 : decode cX8_isDone 27 = .ok (.iconst 0, 1) := by decide +kernel
theorem dX8_isDone_28 : decode cX8_isDone 28 = .ok (.ireturn, 1) := by decide +kernel
theorem dX8_ofRoom_0 : decode cX8_ofRoom 0 = .ok (.iconst 0, 1) := by decide +kernel
theorem dX8_ofRoom_1 : decode cX8_ofRoom 1 = .ok (.istore_n 2, 1) := by decide +kernel
theorem dX8_ofRoom_2 : decode cX8_ofRoom 2 = .ok (.iconst 0, 1) := by decide +kernel
theorem dX8_ofRoom_3 : decode cX8_ofRoom 3 = .ok (.istore_n 3, 1) := by decide +kernel
theorem dX8_ofRoom_4 : decode cX8_ofRoom 4 = .ok (.iload_n 3, 1) := by decide +kernel
theorem dX8_ofRoom_5 : decode cX8_ofRoom 5 = .ok (.aload_n 0, 1) := by decide +kernel
theorem dX8_ofRoom_6 : decode cX8_ofRoom 6 = .ok (.getfield 111, 3) := by decide +kernel
theorem dX8_ofRoom_9 : decode cX8_ofRoom 9 = .ok (.if_icmp .ge 31, 3) := by decide +kernel
theorem dX8_ofRoom_12 : decode cX8_ofRoom 12 = .ok (.iload_n 2, 1) := by decide +kernel
theorem dX8_ofRoom_13 : decode cX8_ofRoom 13 = .ok (.aload_n 0, 1) := by decide +kernel
theorem dX8_ofRoom_14 : decode cX8_ofRoom 14 = .ok (.getfield 22, 3) := by decide +kernel
theorem dX8_ofRoom_17 : decode cX8_ofRoom 17 = .ok (.iconst 4, 1) := by decide +kernel
theorem dX8_ofRoom_18 : decode cX8_ofRoom 18 = .ok (.iload_n 3, 1) := by decide +kernel
theorem dX8_ofRoom_19 : decode cX8_ofRoom 19 = .ok (.imul, 1) := by decide +kernel
theorem dX8_ofRoom_20 : decode cX8_ofRoom 20 = .ok (.iaload, 1) := by decide +kernel
theorem dX8_ofRoom_21 : decode cX8_ofRoom 21 = .ok (.iload_n 1, 1) := by decide +kernel
theorem dX8_ofRoom_22 : decode cX8_ofRoom 22 = .ok (.if_icmp .ne 9, 3) := by decide +kernel
theorem dX8_ofRoom_25 : decode cX8_ofRoom 25 = .ok (.iconst 1, 1) := by decide +kernel
theorem dX8_ofRoom_26 : decode cX8_ofRoom 26 = .ok (.iload_n 3, 1) := by decide +kernel
theorem dX8_ofRoom_27 : decode cX8_ofRoom 27 = .ok (.ishl, 1) := by decide +kernel
theorem dX8_ofRoom_28 : decode cX8_ofRoom 28 = .ok (.goto 4, 3) := by decide +kernel
theorem dX8_ofRoom_31 : decode cX8_ofRoom 31 = .ok (.iconst 0, 1) := by decide +kernel
theorem dX8_ofRoom_32 : decode cX8_ofRoom 32 = .ok (.ior, 1) := by decide +kernel
theorem dX8_ofRoom_33 : decode cX8_ofRoom 33 = .ok (.istore_n 2, 1) := by decide +kernel
theorem dX8_ofRoom_34 : decode cX8_ofRoom 34 = .ok (.iinc 3 1, 3) := by decide +kernel
theorem dX8_ofRoom_37 : decode cX8_ofRoom 37 = .ok (.goto (-33), 3) := by decide +kernel
theorem dX8_ofRoom_40 : decode cX8_ofRoom 40 = .ok (.iload_n 2, 1) := by decide +kernel
theorem dX8_ofRoom_41 : decode cX8_ofRoom 41 = .ok (.ireturn, 1) := by decide +kernel
theorem dX8_redOf_0 : decode cX8_redOf 0 = .ok (.iconst 0, 1) := by decide +kernel
theorem dX8_redOf_1 : decode cX8_redOf 1 = .ok (.istore_n 2, 1) := by decide +kernel
theorem dX8_redOf_2 : decode cX8_redOf 2 = .ok (.iconst 0, 1) := by decide +kernel
theorem dX8_redOf_3 : decode cX8_redOf 3 = .ok (.istore_n 3, 1) := by decide +kernel
theorem dX8_redOf_4 : decode cX8_redOf 4 = .ok (.iload_n 3, 1) := by decide +kernel
theorem dX8_redOf_5 : decode cX8_redOf 5 = .ok (.aload_n 0, 1) := by decide +kernel
theorem dX8_redOf_6 : decode cX8_redOf 6 = .ok (.getfield 31, 3) := by decide +kernel
theorem dX8_redOf_9 : decode cX8_redOf 9 = .ok (.bipush 90, 2) := by decide +kernel
theorem dX8_redOf_11 : decode cX8_redOf 11 = .ok (.iload_n 1, 1) := by decide +kernel
theorem dX8_redOf_12 : decode cX8_redOf 12 = .ok (.iadd, 1) := by decide +kernel
theorem dX8_redOf_13 : decode cX8_redOf 13 = .ok (.iaload, 1) := by decide +kernel
theorem dX8_redOf_14 : decode cX8_redOf 14 = .ok (.if_icmp .ge 25, 3) := by decide +kernel
theorem dX8_redOf_17 : decode cX8_redOf 17 = .ok (.iload_n 2, 1) := by decide +kernel
theorem dX8_redOf_18 : decode cX8_redOf 18 = .ok (.aload_n 0, 1) := by decide +kernel
theorem dX8_redOf_19 : decode cX8_redOf 19 = .ok (.getfield 31, 3) := by decide +kernel
theorem dX8_redOf_22 : decode cX8_redOf 22 = .ok (.bipush 30, 2) := by decide +kernel
theorem dX8_redOf_24 : decode cX8_redOf 24 = .ok (.iload_n 1, 1) := by decide +kernel
theorem dX8_redOf_25 : decode cX8_redOf 25 = .ok (.imul, 1) := by decide +kernel
theorem dX8_redOf_26 : decode cX8_redOf 26 = .ok (.iload_n 3, 1) := by decide +kernel
theorem dX8_redOf_27 : decode cX8_redOf 27 = .ok (.iadd, 1) := by decide +kernel
theorem dX8_redOf_28 : decode cX8_redOf 28 = .ok (.iaload, 1) := by decide +kernel
theorem dX8_redOf_29 : decode cX8_redOf 29 = .ok (.iconst 1, 1) := by decide +kernel
theorem dX8_redOf_30 : decode cX8_redOf 30 = .ok (.iand, 1) := by decide +kernel
theorem dX8_redOf_31 : decode cX8_redOf 31 = .ok (.iadd, 1) := by decide +kernel
theorem dX8_redOf_32 : decode cX8_redOf 32 = .ok (.istore_n 2, 1) := by decide +kernel
theorem dX8_redOf_33 : decode cX8_redOf 33 = .ok (.iinc 3 1, 3) := by decide +kernel
theorem dX8_redOf_36 : decode cX8_redOf 36 = .ok (.goto (-32), 3) := by decide +kernel
theorem dX8_redOf_39 : decode cX8_redOf 39 = .ok (.iload_n 2, 1) := by decide +kernel
theorem dX8_redOf_40 : decode cX8_redOf 40 = .ok (.ireturn, 1) := by decide +kernel
set_option maxRecDepth 20000 in
theorem ggX8_room_X8_isRoom : GoodIn wsX8_room wsX8_isRoom := goodIn_r _ [7, 8, 9, 10, 6, 11, 26, 27, 28, 29, 30, 31, 32, 33, 34, 35, 36, 37, 38, 39, 40, 41, 42, 43, 44, 45, 46, 47, 48, 49, 50, 51, 52] (by decide +kernel) (by decide +kernel)
set_option maxRecDepth 20000 in
theorem gX8_room_X8_isRoom : GoodIn wsX8_room (wsV RX8 120 RX8 yX8_isRoom wsX8_isRoom) := goodIn_app (goodIn_of _ (by decide +kernel)) ggX8_room_X8_isRoom
set_option maxRecDepth 20000 in
theorem ggX8_room_X8_isDone : GoodIn wsX8_room wsX8_isDone := goodIn_r _ [15, 2, 1, 26, 27, 28, 29, 30, 31, 32, 33, 34, 35, 36, 37, 38, 39, 40, 41, 42, 43, 44, 45, 46, 47, 48, 49, 50, 51, 52] (by decide +kernel) (by decide +kernel)
set_option maxRecDepth 20000 in
theorem gX8_room_X8_isDone : GoodIn wsX8_room (wsV RX8 124 RX8 yX8_isDone wsX8_isDone) := goodIn_app (goodIn_of _ (by decide +kernel)) ggX8_room_X8_isDone
set_option maxRecDepth 20000 in
theorem ggX8_room_X8_redOf : GoodIn wsX8_room wsX8_redOf := goodIn_r _ [19, 2, 26, 27, 28, 29, 30, 31, 32, 33, 34, 35, 36, 37, 38, 39, 40, 41, 42, 43, 44, 45, 46, 47, 48, 49, 50, 51, 52] (by decide +kernel) (by decide +kernel)
set_option maxRecDepth 20000 in
theorem gX8_room_X8_redOf : GoodIn wsX8_room (wsV RX8 128 RX8 yX8_redOf wsX8_redOf) := goodIn_app (goodIn_of _ (by decide +kernel)) ggX8_room_X8_redOf
set_option maxRecDepth 20000 in
theorem ggX8_room_X8_ofRoom : GoodIn wsX8_room wsX8_ofRoom := goodIn_r _ [23, 24, 25, 26, 27, 28, 29, 30, 31, 32, 33, 34, 35, 36, 37, 38, 39, 40, 41, 42, 43, 44, 45, 46, 47, 48, 49, 50, 51, 52] (by decide +kernel) (by decide +kernel)
set_option maxRecDepth 20000 in
theorem gX8_room_X8_ofRoom : GoodIn wsX8_room (wsV RX8 131 RX8 yX8_ofRoom wsX8_ofRoom) := goodIn_app (goodIn_of _ (by decide +kernel)) ggX8_room_X8_ofRoom
theorem dX8_room_0 : decode cX8_room 0 = .ok (.aload_n 0, 1) := by decide +kernel
theorem dX8_room_1 : decode cX8_room 1 = .ok (.iload_n 1, 1) := by decide +kernel
theorem dX8_room_2 : decode cX8_room 2 = .ok (.invokevirtual 120, 3) := by decide +kernel
theorem dX8_room_5 : decode cX8_room 5 = .ok (.ifCond .ne 5, 3) := by decide +kernel
theorem dX8_room_8 : decode cX8_room 8 = .ok (.iconst (-1), 1) := by decide +kernel
theorem dX8_room_9 : decode cX8_room 9 = .ok (.ireturn, 1) := by decide +kernel
theorem dX8_room_10 : decode cX8_room 10 = .ok (.iload_n 2, 1) := by decide +kernel
theorem dX8_room_11 : decode cX8_room 11 = .ok (.tableswitch 91 0 5 #[37, 44, 54, 64, 79, 85], 37) := by decide +kernel
theorem dX8_room_48 : decode cX8_room 48 = .ok (.aload_n 0, 1) := by decide +kernel
theorem dX8_room_49 : decode cX8_room 49 = .ok (.getfield 19, 3) := by decide +kernel
theorem dX8_room_52 : decode cX8_room 52 = .ok (.iload_n 1, 1) := by decide +kernel
theorem dX8_room_53 : decode cX8_room 53 = .ok (.iaload, 1) := by decide +kernel
theorem dX8_room_54 : decode cX8_room 54 = .ok (.ireturn, 1) := by decide +kernel
theorem dX8_room_55 : decode cX8_room 55 = .ok (.aload_n 0, 1) := by decide +kernel
theorem dX8_room_56 : decode cX8_room 56 = .ok (.getfield 31, 3) := by decide +kernel
theorem dX8_room_59 : decode cX8_room 59 = .ok (.bipush 90, 2) := by decide +kernel
theorem dX8_room_61 : decode cX8_room 61 = .ok (.iload_n 1, 1) := by decide +kernel
theorem dX8_room_62 : decode cX8_room 62 = .ok (.iadd, 1) := by decide +kernel
theorem dX8_room_63 : decode cX8_room 63 = .ok (.iaload, 1) := by decide +kernel
theorem dX8_room_64 : decode cX8_room 64 = .ok (.ireturn, 1) := by decide +kernel
theorem dX8_room_65 : decode cX8_room 65 = .ok (.aload_n 0, 1) := by decide +kernel
theorem dX8_room_66 : decode cX8_room 66 = .ok (.getfield 31, 3) := by decide +kernel
theorem dX8_room_69 : decode cX8_room 69 = .ok (.bipush 93, 2) := by decide +kernel
theorem dX8_room_71 : decode cX8_room 71 = .ok (.iload_n 1, 1) := by decide +kernel
theorem dX8_room_72 : decode cX8_room 72 = .ok (.iadd, 1) := by decide +kernel
theorem dX8_room_73 : decode cX8_room 73 = .ok (.iaload, 1) := by decide +kernel
theorem dX8_room_74 : decode cX8_room 74 = .ok (.ireturn, 1) := by decide +kernel
theorem dX8_room_75 : decode cX8_room 75 = .ok (.aload_n 0, 1) := by decide +kernel
theorem dX8_room_76 : decode cX8_room 76 = .ok (.iconst 0, 1) := by decide +kernel
theorem dX8_room_77 : decode cX8_room 77 = .ok (.iload_n 1, 1) := by decide +kernel
theorem dX8_room_78 : decode cX8_room 78 = .ok (.invokevirtual 124, 3) := by decide +kernel
theorem dX8_room_81 : decode cX8_room 81 = .ok (.ifCond .eq 7, 3) := by decide +kernel
theorem dX8_room_84 : decode cX8_room 84 = .ok (.iconst 1, 1) := by decide +kernel
theorem dX8_room_85 : decode cX8_room 85 = .ok (.goto 4, 3) := by decide +kernel
theorem dX8_room_88 : decode cX8_room 88 = .ok (.iconst 0, 1) := by decide +kernel
theorem dX8_room_89 : decode cX8_room 89 = .ok (.ireturn, 1) := by decide +kernel
theorem dX8_room_90 : decode cX8_room 90 = .ok (.aload_n 0, 1) := by decide +kernel
theorem dX8_room_91 : decode cX8_room 91 = .ok (.iload_n 1, 1) := by decide +kernel
theorem dX8_room_92 : decode cX8_room 92 = .ok (.invokevirtual 128, 3) := by decide +kernel
theorem dX8_room_95 : decode cX8_room 95 = .ok (.ireturn, 1) := by decide +kernel
theorem dX8_room_96 : decode cX8_room 96 = .ok (.aload_n 0, 1) := by decide +kernel
theorem dX8_room_97 : decode cX8_room 97 = .ok (.iload_n 1, 1) := by decide +kernel
theorem dX8_room_98 : decode cX8_room 98 = .ok (.invokevirtual 131, 3) := by decide +kernel
theorem dX8_room_101 : decode cX8_room 101 = .ok (.ireturn, 1) := by decide +kernel
theorem dX8_room_102 : decode cX8_room 102 = .ok (.bipush (-2), 2) := by decide +kernel
theorem dX8_room_104 : decode cX8_room 104 = .ok (.ireturn, 1) := by decide +kernel
theorem dX8_knotsOf_0 : decode cX8_knotsOf 0 = .ok (.iconst 0, 1) := by decide +kernel
theorem dX8_knotsOf_1 : decode cX8_knotsOf 1 = .ok (.istore_n 2, 1) := by decide +kernel
theorem dX8_knotsOf_2 : decode cX8_knotsOf 2 = .ok (.iconst 0, 1) := by decide +kernel
theorem dX8_knotsOf_3 : decode cX8_knotsOf 3 = .ok (.istore_n 3, 1) := by decide +kernel
theorem dX8_knotsOf_4 : decode cX8_knotsOf 4 = .ok (.iload_n 3, 1) := by decide +kernel
theorem dX8_knotsOf_5 : decode cX8_knotsOf 5 = .ok (.aload_n 0, 1) := by decide +kernel
theorem dX8_knotsOf_6 : decode cX8_knotsOf 6 = .ok (.getfield 108, 3) := by decide +kernel
theorem dX8_knotsOf_9 : decode cX8_knotsOf 9 = .ok (.if_icmp .ge 58, 3) := by decide +kernel
theorem dX8_knotsOf_12 : decode cX8_knotsOf 12 = .ok (.iconst 0, 1) := by decide +kernel
theorem dX8_knotsOf_13 : decode cX8_knotsOf 13 = .ok (.istore 4, 2) := by decide +kernel
theorem dX8_knotsOf_15 : decode cX8_knotsOf 15 = .ok (.iload 4, 2) := by decide +kernel
theorem dX8_knotsOf_17 : decode cX8_knotsOf 17 = .ok (.aload_n 0, 1) := by decide +kernel
theorem dX8_knotsOf_18 : decode cX8_knotsOf 18 = .ok (.getfield 31, 3) := by decide +kernel
theorem dX8_knotsOf_21 : decode cX8_knotsOf 21 = .ok (.bipush 90, 2) := by decide +kernel
theorem dX8_knotsOf_23 : decode cX8_knotsOf 23 = .ok (.iload_n 3, 1) := by decide +kernel
theorem dX8_knotsOf_24 : decode cX8_knotsOf 24 = .ok (.iadd, 1) := by decide +kernel
theorem dX8_knotsOf_25 : decode cX8_knotsOf 25 = .ok (.iaload, 1) := by decide +kernel
theorem dX8_knotsOf_26 : decode cX8_knotsOf 26 = .ok (.if_icmp .ge 35, 3) := by decide +kernel
theorem dX8_knotsOf_29 : decode cX8_knotsOf 29 = .ok (.iload_n 2, 1) := by decide +kernel
theorem dX8_knotsOf_30 : decode cX8_knotsOf 30 = .ok (.aload_n 0, 1) := by decide +kernel
theorem dX8_knotsOf_31 : decode cX8_knotsOf 31 = .ok (.getfield 31, 3) := by decide +kernel
theorem dX8_knotsOf_34 : decode cX8_knotsOf 34 = .ok (.bipush 30, 2) := by decide +kernel
theorem dX8_knotsOf_36 : decode cX8_knotsOf 36 = .ok (.iload_n 3, 1) := by decide +kernel
theorem dX8_knotsOf_37 : decode cX8_knotsOf 37 = .ok (.imul, 1) := by decide +kernel
theorem dX8_knotsOf_38 : decode cX8_knotsOf 38 = .ok (.iload 4, 2) := by decide +kernel
theorem dX8_knotsOf_40 : decode cX8_knotsOf 40 = .ok (.iadd, 1) := by decide +kernel
theorem dX8_knotsOf_41 : decode cX8_knotsOf 41 = .ok (.iaload, 1) := by decide +kernel
theorem dX8_knotsOf_42 : decode cX8_knotsOf 42 = .ok (.iconst 2, 1) := by decide +kernel
theorem dX8_knotsOf_43 : decode cX8_knotsOf 43 = .ok (.idiv, 1) := by decide +kernel
theorem dX8_knotsOf_44 : decode cX8_knotsOf 44 = .ok (.iload_n 1, 1) := by decide +kernel
theorem dX8_knotsOf_45 : decode cX8_knotsOf 45 = .ok (.if_icmp .ne 7, 3) := by decide +kernel
theorem dX8_knotsOf_48 : decode cX8_knotsOf 48 = .ok (.iconst 1, 1) := by decide +kernel
theorem dX8_knotsOf_49 : decode cX8_knotsOf 49 = .ok (.goto 4, 3) := by decide +kernel
theorem dX8_knotsOf_52 : decode cX8_knotsOf 52 = .ok (.iconst 0, 1) := by decide +kernel
theorem dX8_knotsOf_53 : decode cX8_knotsOf 53 = .ok (.iadd, 1) := by decide +kernel
theorem dX8_knotsOf_54 : decode cX8_knotsOf 54 = .ok (.istore_n 2, 1) := by decide +kernel
theorem dX8_knotsOf_55 : decode cX8_knotsOf 55 = .ok (.iinc 4 1, 3) := by decide +kernel
theorem dX8_knotsOf_58 : decode cX8_knotsOf 58 = .ok (.goto (-43), 3) := by decide +kernel
theorem dX8_knotsOf_61 : decode cX8_knotsOf 61 = .ok (.iinc 3 1, 3) := by decide +kernel
theorem dX8_knotsOf_64 : decode cX8_knotsOf 64 = .ok (.goto (-60), 3) := by decide +kernel
theorem dX8_knotsOf_67 : decode cX8_knotsOf 67 = .ok (.iload_n 2, 1) := by decide +kernel
theorem dX8_knotsOf_68 : decode cX8_knotsOf 68 = .ok (.ireturn, 1) := by decide +kernel
set_option maxRecDepth 20000 in
theorem ggX8_person_X8_isPerson : GoodIn wsX8_person wsX8_isPerson := goodIn_r _ [7, 8, 9, 10, 6, 11, 18, 19, 20, 21, 22, 23, 24, 25, 26, 27, 28, 29, 30, 31, 32, 33, 34, 35, 36, 37, 38, 39, 40, 41, 42, 43, 44] (by decide +kernel) (by decide +kernel)
set_option maxRecDepth 20000 in
theorem gX8_person_X8_isPerson : GoodIn wsX8_person (wsV RX8 134 RX8 yX8_isPerson wsX8_isPerson) := goodIn_app (goodIn_of _ (by decide +kernel)) ggX8_person_X8_isPerson
set_option maxRecDepth 20000 in
theorem ggX8_person_X8_in : GoodIn wsX8_person wsX8_in := goodIn_r _ [11] (by decide +kernel) (by decide +kernel)
set_option maxRecDepth 20000 in
theorem gX8_person_X8_in : GoodIn wsX8_person (va_wsS RX8 59 yX8_in wsX8_in) := goodIn_app (goodIn_of _ (by decide +kernel)) ggX8_person_X8_in
set_option maxRecDepth 20000 in
theorem ggX8_person_X8_knotsOf : GoodIn wsX8_person wsX8_knotsOf := goodIn_r _ [15, 16, 17, 18, 19, 20, 21, 22, 23, 24, 25, 26, 27, 28, 29, 30, 31, 32, 33, 34, 35, 36, 37, 38, 39, 40, 41, 42, 43, 44] (by decide +kernel) (by decide +kernel)
set_option maxRecDepth 20000 in
theorem gX8_person_X8_knotsOf : GoodIn wsX8_person (wsV RX8 139 RX8 yX8_knotsOf wsX8_knotsOf) := goodIn_app (goodIn_of _ (by decide +kernel)) ggX8_person_X8_knotsOf
theorem dX8_person_0 : decode cX8_person 0 = .ok (.aload_n 0, 1) := by decide +kernel
theorem dX8_person_1 : decode cX8_person 1 = .ok (.iload_n 1, 1) := by decide +kernel
theorem dX8_person_2 : decode cX8_person 2 = .ok (.invokevirtual 134, 3) := by decide +kernel
theorem dX8_person_5 : decode cX8_person 5 = .ok (.ifCond .ne 5, 3) := by decide +kernel
theorem dX8_person_8 : decode cX8_person 8 = .ok (.iconst (-1), 1) := by decide +kernel
theorem dX8_person_9 : decode cX8_person 9 = .ok (.ireturn, 1) := by decide +kernel
theorem dX8_person_10 : decode cX8_person 10 = .ok (.iload_n 2, 1) := by decide +kernel
theorem dX8_person_11 : decode cX8_person 11 = .ok (.i2l, 1) := by decide +kernel
theorem dX8_person_12 : decode cX8_person 12 = .ok (.lconst 0, 1) := by decide +kernel
theorem dX8_person_13 : decode cX8_person 13 = .ok (.ldc2_w 137, 3) := by decide +kernel
theorem dX8_person_16 : decode cX8_person 16 = .ok (.invokestatic 59, 3) := by decide +kernel
theorem dX8_person_19 : decode cX8_person 19 = .ok (.ifCond .eq 16, 3) := by decide +kernel
theorem dX8_person_22 : decode cX8_person 22 = .ok (.aload_n 0, 1) := by decide +kernel
theorem dX8_person_23 : decode cX8_person 23 = .ok (.getfield 22, 3) := by decide +kernel
theorem dX8_person_26 : decode cX8_person 26 = .ok (.iconst 4, 1) := by decide +kernel
theorem dX8_person_27 : decode cX8_person 27 = .ok (.iload_n 1, 1) := by decide +kernel
theorem dX8_person_28 : decode cX8_person 28 = .ok (.imul, 1) := by decide +kernel
theorem dX8_person_29 : decode cX8_person 29 = .ok (.iload_n 2, 1) := by decide +kernel
theorem dX8_person_30 : decode cX8_person 30 = .ok (.iadd, 1) := by decide +kernel
theorem dX8_person_31 : decode cX8_person 31 = .ok (.iaload, 1) := by decide +kernel
theorem dX8_person_32 : decode cX8_person 32 = .ok (.goto 18, 3) := by decide +kernel
theorem dX8_person_35 : decode cX8_person 35 = .ok (.iload_n 2, 1) := by decide +kernel
theorem dX8_person_36 : decode cX8_person 36 = .ok (.iconst 4, 1) := by decide +kernel
theorem dX8_person_37 : decode cX8_person 37 = .ok (.if_icmp .ne 11, 3) := by decide +kernel
theorem dX8_person_40 : decode cX8_person 40 = .ok (.aload_n 0, 1) := by decide +kernel
theorem dX8_person_41 : decode cX8_person 41 = .ok (.iload_n 1, 1) := by decide +kernel
theorem dX8_person_42 : decode cX8_person 42 = .ok (.invokevirtual 139, 3) := by decide +kernel
theorem dX8_person_45 : decode cX8_person 45 = .ok (.goto 5, 3) := by decide +kernel
theorem dX8_person_48 : decode cX8_person 48 = .ok (.bipush (-2), 2) := by decide +kernel
theorem dX8_person_50 : decode cX8_person 50 = .ok (.ireturn, 1) := by decide +kernel
set_option maxRecDepth 20000 in
theorem ggX8_quarrel_X8_isPerson : GoodIn wsX8_quarrel wsX8_isPerson := goodIn_r _ [6, 7, 8, 9, 5, 10, 11, 12, 13, 14, 15, 16, 17, 18, 19, 20, 21, 22, 23, 24, 25, 26, 27, 28, 29, 30, 31, 32, 33, 34, 35, 36, 37] (by decide +kernel) (by decide +kernel)
set_option maxRecDepth 20000 in
theorem gX8_quarrel_X8_isPerson : GoodIn wsX8_quarrel (wsV RX8 134 RX8 yX8_isPerson wsX8_isPerson) := goodIn_app (goodIn_of _ (by decide +kernel)) ggX8_quarrel_X8_isPerson
theorem dX8_quarrel_0 : decode cX8_quarrel 0 = .ok (.aload_n 0, 1) := by decide +kernel
theorem dX8_quarrel_1 : decode cX8_quarrel 1 = .ok (.iload_n 1, 1) := by decide +kernel
theorem dX8_quarrel_2 : decode cX8_quarrel 2 = .ok (.invokevirtual 134, 3) := by decide +kernel
theorem dX8_quarrel_5 : decode cX8_quarrel 5 = .ok (.ifCond .eq 24, 3) := by decide +kernel
theorem dX8_quarrel_8 : decode cX8_quarrel 8 = .ok (.aload_n 0, 1) := by decide +kernel
theorem dX8_quarrel_9 : decode cX8_quarrel 9 = .ok (.iload_n 2, 1) := by decide +kernel
theorem dX8_quarrel_10 : decode cX8_quarrel 10 = .ok (.invokevirtual 134, 3) := by decide +kernel
theorem dX8_quarrel_13 : decode cX8_quarrel 13 = .ok (.ifCond .eq 16, 3) := by decide +kernel
theorem dX8_quarrel_16 : decode cX8_quarrel 16 = .ok (.aload_n 0, 1) := by decide +kernel
theorem dX8_quarrel_17 : decode cX8_quarrel 17 = .ok (.getfield 25, 3) := by decide +kernel
theorem dX8_quarrel_20 : decode cX8_quarrel 20 = .ok (.iconst 5, 1) := by decide +kernel
theorem dX8_quarrel_21 : decode cX8_quarrel 21 = .ok (.iload_n 1, 1) := by decide +kernel
theorem dX8_quarrel_22 : decode cX8_quarrel 22 = .ok (.imul, 1) := by decide +kernel
theorem dX8_quarrel_23 : decode cX8_quarrel 23 = .ok (.iload_n 2, 1) := by decide +kernel
theorem dX8_quarrel_24 : decode cX8_quarrel 24 = .ok (.iadd, 1) := by decide +kernel
theorem dX8_quarrel_25 : decode cX8_quarrel 25 = .ok (.iaload, 1) := by decide +kernel
theorem dX8_quarrel_26 : decode cX8_quarrel 26 = .ok (.goto 4, 3) := by decide +kernel
theorem dX8_quarrel_29 : decode cX8_quarrel 29 = .ok (.iconst (-1), 1) := by decide +kernel
theorem dX8_quarrel_30 : decode cX8_quarrel 30 = .ok (.ireturn, 1) := by decide +kernel
set_option maxRecDepth 20000 in
theorem ggX8_knot_X8_isRoom : GoodIn wsX8_knot wsX8_isRoom := goodIn_r _ [6, 7, 8, 9, 5, 10, 11, 12, 13, 14, 15, 16, 17, 18, 19, 20, 21, 22, 23, 24, 25, 26, 27, 28, 29, 30, 31, 32, 33, 34, 35, 36, 37] (by decide +kernel) (by decide +kernel)
set_option maxRecDepth 20000 in
theorem gX8_knot_X8_isRoom : GoodIn wsX8_knot (wsV RX8 120 RX8 yX8_isRoom wsX8_isRoom) := goodIn_app (goodIn_of _ (by decide +kernel)) ggX8_knot_X8_isRoom
set_option maxRecDepth 20000 in
theorem ggX8_knot_X8_in : GoodIn wsX8_knot wsX8_in := goodIn_r _ [10] (by decide +kernel) (by decide +kernel)
set_option maxRecDepth 20000 in
theorem gX8_knot_X8_in : GoodIn wsX8_knot (va_wsS RX8 59 yX8_in wsX8_in) := goodIn_app (goodIn_of _ (by decide +kernel)) ggX8_knot_X8_in
theorem dX8_knot_0 : decode cX8_knot 0 = .ok (.aload_n 0, 1) := by decide +kernel
theorem dX8_knot_1 : decode cX8_knot 1 = .ok (.iload_n 1, 1) := by decide +kernel
theorem dX8_knot_2 : decode cX8_knot 2 = .ok (.invokevirtual 120, 3) := by decide +kernel
theorem dX8_knot_5 : decode cX8_knot 5 = .ok (.ifCond .ne 5, 3) := by decide +kernel
theorem dX8_knot_8 : decode cX8_knot 8 = .ok (.iconst (-1), 1) := by decide +kernel
theorem dX8_knot_9 : decode cX8_knot 9 = .ok (.ireturn, 1) := by decide +kernel
theorem dX8_knot_10 : decode cX8_knot 10 = .ok (.iload_n 2, 1) := by decide +kernel
theorem dX8_knot_11 : decode cX8_knot 11 = .ok (.i2l, 1) := by decide +kernel
theorem dX8_knot_12 : decode cX8_knot 12 = .ok (.lconst 0, 1) := by decide +kernel
theorem dX8_knot_13 : decode cX8_knot 13 = .ok (.aload_n 0, 1) := by decide +kernel
theorem dX8_knot_14 : decode cX8_knot 14 = .ok (.getfield 31, 3) := by decide +kernel
theorem dX8_knot_17 : decode cX8_knot 17 = .ok (.bipush 90, 2) := by decide +kernel
theorem dX8_knot_19 : decode cX8_knot 19 = .ok (.iload_n 1, 1) := by decide +kernel
theorem dX8_knot_20 : decode cX8_knot 20 = .ok (.iadd, 1) := by decide +kernel
theorem dX8_knot_21 : decode cX8_knot 21 = .ok (.iaload, 1) := by decide +kernel
theorem dX8_knot_22 : decode cX8_knot 22 = .ok (.iconst 1, 1) := by decide +kernel
theorem dX8_knot_23 : decode cX8_knot 23 = .ok (.isub, 1) := by decide +kernel
theorem dX8_knot_24 : decode cX8_knot 24 = .ok (.i2l, 1) := by decide +kernel
theorem dX8_knot_25 : decode cX8_knot 25 = .ok (.invokestatic 59, 3) := by decide +kernel
theorem dX8_knot_28 : decode cX8_knot 28 = .ok (.ifCond .eq 17, 3) := by decide +kernel
theorem dX8_knot_31 : decode cX8_knot 31 = .ok (.aload_n 0, 1) := by decide +kernel
theorem dX8_knot_32 : decode cX8_knot 32 = .ok (.getfield 31, 3) := by decide +kernel
theorem dX8_knot_35 : decode cX8_knot 35 = .ok (.bipush 30, 2) := by decide +kernel
theorem dX8_knot_37 : decode cX8_knot 37 = .ok (.iload_n 1, 1) := by decide +kernel
theorem dX8_knot_38 : decode cX8_knot 38 = .ok (.imul, 1) := by decide +kernel
theorem dX8_knot_39 : decode cX8_knot 39 = .ok (.iload_n 2, 1) := by decide +kernel
theorem dX8_knot_40 : decode cX8_knot 40 = .ok (.iadd, 1) := by decide +kernel
theorem dX8_knot_41 : decode cX8_knot 41 = .ok (.iaload, 1) := by decide +kernel
theorem dX8_knot_42 : decode cX8_knot 42 = .ok (.goto 5, 3) := by decide +kernel
theorem dX8_knot_45 : decode cX8_knot 45 = .ok (.bipush (-9), 2) := by decide +kernel
theorem dX8_knot_47 : decode cX8_knot 47 = .ok (.ireturn, 1) := by decide +kernel
theorem dX8_keepAct_0 : decode cX8_keepAct 0 = .ok (.iconst 0, 1) := by decide +kernel
theorem dX8_keepAct_1 : decode cX8_keepAct 1 = .ok (.istore_n 1, 1) := by decide +kernel
theorem dX8_keepAct_2 : decode cX8_keepAct 2 = .ok (.iload_n 1, 1) := by decide +kernel
theorem dX8_keepAct_3 : decode cX8_keepAct 3 = .ok (.bipush 97, 2) := by decide +kernel
theorem dX8_keepAct_5 : decode cX8_keepAct 5 = .ok (.if_icmp .ge 29, 3) := by decide +kernel
theorem dX8_keepAct_8 : decode cX8_keepAct 8 = .ok (.aload_n 0, 1) := by decide +kernel
theorem dX8_keepAct_9 : decode cX8_keepAct 9 = .ok (.getfield 34, 3) := by decide +kernel
theorem dX8_keepAct_12 : decode cX8_keepAct 12 = .ok (.bipush 97, 2) := by decide +kernel
theorem dX8_keepAct_14 : decode cX8_keepAct 14 = .ok (.aload_n 0, 1) := by decide +kernel
theorem dX8_keepAct_15 : decode cX8_keepAct 15 = .ok (.getfield 142, 3) := by decide +kernel
theorem dX8_keepAct_18 : decode cX8_keepAct 18 = .ok (.imul, 1) := by decide +kernel
theorem dX8_keepAct_19 : decode cX8_keepAct 19 = .ok (.iload_n 1, 1) := by decide +kernel
theorem dX8_keepAct_20 : decode cX8_keepAct 20 = .ok (.iadd, 1) := by decide +kernel
theorem dX8_keepAct_21 : decode cX8_keepAct 21 = .ok (.aload_n 0, 1) := by decide +kernel
theorem dX8_keepAct_22 : decode cX8_keepAct 22 = .ok (.getfield 31, 3) := by decide +kernel
theorem dX8_keepAct_25 : decode cX8_keepAct 25 = .ok (.iload_n 1, 1) := by decide +kernel
theorem dX8_keepAct_26 : decode cX8_keepAct 26 = .ok (.iaload, 1) := by decide +kernel
theorem dX8_keepAct_27 : decode cX8_keepAct 27 = .ok (.iastore, 1) := by decide +kernel
theorem dX8_keepAct_28 : decode cX8_keepAct 28 = .ok (.iinc 1 1, 3) := by decide +kernel
theorem dX8_keepAct_31 : decode cX8_keepAct 31 = .ok (.goto (-29), 3) := by decide +kernel
theorem dX8_keepAct_34 : decode cX8_keepAct 34 = .ok (.aload_n 0, 1) := by decide +kernel
theorem dX8_keepAct_35 : decode cX8_keepAct 35 = .ok (.aload_n 0, 1) := by decide +kernel
theorem dX8_keepAct_36 : decode cX8_keepAct 36 = .ok (.getfield 142, 3) := by decide +kernel
theorem dX8_keepAct_39 : decode cX8_keepAct 39 = .ok (.iconst 1, 1) := by decide +kernel
theorem dX8_keepAct_40 : decode cX8_keepAct 40 = .ok (.iadd, 1) := by decide +kernel
theorem dX8_keepAct_41 : decode cX8_keepAct 41 = .ok (.bipush 16, 2) := by decide +kernel
theorem dX8_keepAct_43 : decode cX8_keepAct 43 = .ok (.irem, 1) := by decide +kernel
theorem dX8_keepAct_44 : decode cX8_keepAct 44 = .ok (.putfield 142, 3) := by decide +kernel
theorem dX8_keepAct_47 : decode cX8_keepAct 47 = .ok (.aload_n 0, 1) := by decide +kernel
theorem dX8_keepAct_48 : decode cX8_keepAct 48 = .ok (.aload_n 0, 1) := by decide +kernel
theorem dX8_keepAct_49 : decode cX8_keepAct 49 = .ok (.getfield 117, 3) := by decide +kernel
theorem dX8_keepAct_52 : decode cX8_keepAct 52 = .ok (.bipush 16, 2) := by decide +kernel
theorem dX8_keepAct_54 : decode cX8_keepAct 54 = .ok (.if_icmp .ge 12, 3) := by decide +kernel
theorem dX8_keepAct_57 : decode cX8_keepAct 57 = .ok (.aload_n 0, 1) := by decide +kernel
theorem dX8_keepAct_58 : decode cX8_keepAct 58 = .ok (.getfield 117, 3) := by decide +kernel
theorem dX8_keepAct_61 : decode cX8_keepAct 61 = .ok (.iconst 1, 1) := by decide +kernel
theorem dX8_keepAct_62 : decode cX8_keepAct 62 = .ok (.iadd, 1) := by decide +kernel
theorem dX8_keepAct_63 : decode cX8_keepAct 63 = .ok (.goto 5, 3) := by decide +kernel
theorem dX8_keepAct_66 : decode cX8_keepAct 66 = .ok (.bipush 16, 2) := by decide +kernel
theorem dX8_keepAct_68 : decode cX8_keepAct 68 = .ok (.putfield 117, 3) := by decide +kernel
theorem dX8_keepAct_71 : decode cX8_keepAct 71 = .ok (.return_, 1) := by decide +kernel
set_option maxRecDepth 20000 in
theorem ggX8_dine_X8_isDone : GoodIn wsX8_dine wsX8_isDone := goodIn_r _ [8, 3, 9, 14, 15, 16, 17, 18, 19, 20, 21, 22, 23, 24, 25, 26, 27, 28, 29, 30, 31, 32, 33, 34, 35, 36, 37, 38, 39, 40] (by decide +kernel) (by decide +kernel)
set_option maxRecDepth 20000 in
theorem gX8_dine_X8_isDone : GoodIn wsX8_dine (wsV RX8 124 RX8 yX8_isDone wsX8_isDone) := goodIn_app (goodIn_of _ (by decide +kernel)) ggX8_dine_X8_isDone
set_option maxRecDepth 20000 in
theorem ggX8_dine_X8_tread : GoodIn wsX8_dine wsX8_tread := goodIn_r _ [13, 3, 14, 15, 16, 17, 18, 19, 20, 21, 22, 23, 24, 25, 26, 27, 28, 29, 30, 31, 32, 33, 34, 35, 36, 37, 38, 39, 40] (by decide +kernel) (by decide +kernel)
set_option maxRecDepth 20000 in
theorem gX8_dine_X8_tread : GoodIn wsX8_dine (wsV RX8 145 RX8 yX8_tread wsX8_tread) := goodIn_app (goodIn_of _ (by decide +kernel)) ggX8_dine_X8_tread
theorem dX8_dine_0 : decode cX8_dine 0 = .ok (.bipush 97, 2) := by decide +kernel
theorem dX8_dine_2 : decode cX8_dine 2 = .ok (.iload_n 1, 1) := by decide +kernel
theorem dX8_dine_3 : decode cX8_dine 3 = .ok (.imul, 1) := by decide +kernel
theorem dX8_dine_4 : decode cX8_dine 4 = .ok (.istore 4, 2) := by decide +kernel
theorem dX8_dine_6 : decode cX8_dine 6 = .ok (.iconst 0, 1) := by decide +kernel
theorem dX8_dine_7 : decode cX8_dine 7 = .ok (.istore 5, 2) := by decide +kernel
theorem dX8_dine_9 : decode cX8_dine 9 = .ok (.iconst 0, 1) := by decide +kernel
theorem dX8_dine_10 : decode cX8_dine 10 = .ok (.istore 6, 2) := by decide +kernel
theorem dX8_dine_12 : decode cX8_dine 12 = .ok (.iload 6, 2) := by decide +kernel
theorem dX8_dine_14 : decode cX8_dine 14 = .ok (.aload_n 0, 1) := by decide +kernel
theorem dX8_dine_15 : decode cX8_dine 15 = .ok (.getfield 111, 3) := by decide +kernel
theorem dX8_dine_18 : decode cX8_dine 18 = .ok (.if_icmp .ge 98, 3) := by decide +kernel
theorem dX8_dine_21 : decode cX8_dine 21 = .ok (.aload_n 0, 1) := by decide +kernel
theorem dX8_dine_22 : decode cX8_dine 22 = .ok (.getfield 22, 3) := by decide +kernel
theorem dX8_dine_25 : decode cX8_dine 25 = .ok (.iconst 4, 1) := by decide +kernel
theorem dX8_dine_26 : decode cX8_dine 26 = .ok (.iload 6, 2) := by decide +kernel
theorem dX8_dine_28 : decode cX8_dine 28 = .ok (.imul, 1) := by decide +kernel
theorem dX8_dine_29 : decode cX8_dine 29 = .ok (.iaload, 1) := by decide +kernel
theorem dX8_dine_30 : decode cX8_dine 30 = .ok (.istore 7, 2) := by decide +kernel
theorem dX8_dine_32 : decode cX8_dine 32 = .ok (.iload_n 2, 1) := by decide +kernel
theorem dX8_dine_33 : decode cX8_dine 33 = .ok (.iload 6, 2) := by decide +kernel
theorem dX8_dine_35 : decode cX8_dine 35 = .ok (.ishr, 1) := by decide +kernel
theorem dX8_dine_36 : decode cX8_dine 36 = .ok (.iconst 1, 1) := by decide +kernel
theorem dX8_dine_37 : decode cX8_dine 37 = .ok (.iand, 1) := by decide +kernel
theorem dX8_dine_38 : decode cX8_dine 38 = .ok (.iconst 1, 1) := by decide +kernel
theorem dX8_dine_39 : decode cX8_dine 39 = .ok (.if_icmp .ne 71, 3) := by decide +kernel
theorem dX8_dine_42 : decode cX8_dine 42 = .ok (.aload_n 0, 1) := by decide +kernel
theorem dX8_dine_43 : decode cX8_dine 43 = .ok (.iload_n 1, 1) := by decide +kernel
theorem dX8_dine_44 : decode cX8_dine 44 = .ok (.iload 7, 2) := by decide +kernel
theorem dX8_dine_46 : decode cX8_dine 46 = .ok (.invokevirtual 124, 3) := by decide +kernel
theorem dX8_dine_49 : decode cX8_dine 49 = .ok (.ifCond .ne 61, 3) := by decide +kernel
theorem dX8_dine_52 : decode cX8_dine 52 = .ok (.aload_n 0, 1) := by decide +kernel
theorem dX8_dine_53 : decode cX8_dine 53 = .ok (.getfield 31, 3) := by decide +kernel
theorem dX8_dine_56 : decode cX8_dine 56 = .ok (.iload 4, 2) := by decide +kernel
theorem dX8_dine_58 : decode cX8_dine 58 = .ok (.bipush 30, 2) := by decide +kernel
theorem dX8_dine_60 : decode cX8_dine 60 = .ok (.iload 7, 2) := by decide +kernel
theorem dX8_dine_62 : decode cX8_dine 62 = .ok (.imul, 1) := by decide +kernel
theorem dX8_dine_63 : decode cX8_dine 63 = .ok (.iadd, 1) := by decide +kernel
theorem dX8_dine_64 : decode cX8_dine 64 = .ok (.aload_n 0, 1) := by decide +kernel
theorem dX8_dine_65 : decode cX8_dine 65 = .ok (.getfield 31, 3) := by decide +kernel
theorem dX8_dine_68 : decode cX8_dine 68 = .ok (.iload 4, 2) := by decide +kernel
theorem dX8_dine_70 : decode cX8_dine 70 = .ok (.bipush 90, 2) := by decide +kernel
theorem dX8_dine_72 : decode cX8_dine 72 = .ok (.iadd, 1) := by decide +kernel
theorem dX8_dine_73 : decode cX8_dine 73 = .ok (.iload 7, 2) := by decide +kernel
theorem dX8_dine_75 : decode cX8_dine 75 = .ok (.iadd, 1) := by decide +kernel
theorem dX8_dine_76 : decode cX8_dine 76 = .ok (.iaload, 1) := by decide +kernel
theorem dX8_dine_77 : decode cX8_dine 77 = .ok (.iadd, 1) := by decide +kernel
theorem dX8_dine_78 : decode cX8_dine 78 = .ok (.iconst 2, 1) := by decide +kernel
theorem dX8_dine_79 : decode cX8_dine 79 = .ok (.iload 6, 2) := by decide +kernel
theorem dX8_dine_81 : decode cX8_dine 81 = .ok (.imul, 1) := by decide +kernel
theorem dX8_dine_82 : decode cX8_dine 82 = .ok (.iload_n 3, 1) := by decide +kernel
theorem dX8_dine_83 : decode cX8_dine 83 = .ok (.iload 6, 2) := by decide +kernel
theorem dX8_dine_85 : decode cX8_dine 85 = .ok (.ishr, 1) := by decide +kernel
theorem dX8_dine_86 : decode cX8_dine 86 = .ok (.iconst 1, 1) := by decide +kernel
theorem dX8_dine_87 : decode cX8_dine 87 = .ok (.iand, 1) := by decide +kernel
theorem dX8_dine_88 : decode cX8_dine 88 = .ok (.iadd, 1) := by decide +kernel
theorem dX8_dine_89 : decode cX8_dine 89 = .ok (.iastore, 1) := by decide +kernel
theorem dX8_dine_90 : decode cX8_dine 90 = .ok (.aload_n 0, 1) := by decide +kernel
theorem dX8_dine_91 : decode cX8_dine 91 = .ok (.getfield 31, 3) := by decide +kernel
theorem dX8_dine_94 : decode cX8_dine 94 = .ok (.iload 4, 2) := by decide +kernel
theorem dX8_dine_96 : decode cX8_dine 96 = .ok (.bipush 90, 2) := by decide +kernel
theorem dX8_dine_98 : decode cX8_dine 98 = .ok (.iadd, 1) := by decide +kernel
theorem dX8_dine_99 : decode cX8_dine 99 = .ok (.iload 7, 2) := by decide +kernel
theorem dX8_dine_101 : decode cX8_dine 101 = .ok (.iadd, 1) := by decide +kernel
theorem dX8_dine_102 : decode cX8_dine 102 = .ok (.dup2, 1) := by decide +kernel
theorem dX8_dine_103 : decode cX8_dine 103 = .ok (.iaload, 1) := by decide +kernel
theorem dX8_dine_104 : decode cX8_dine 104 = .ok (.iconst 1, 1) := by decide +kernel
theorem dX8_dine_105 : decode cX8_dine 105 = .ok (.iadd, 1) := by decide +kernel
theorem dX8_dine_106 : decode cX8_dine 106 = .ok (.iastore, 1) := by decide +kernel
theorem dX8_dine_107 : decode cX8_dine 107 = .ok (.iinc 5 1, 3) := by decide +kernel
theorem dX8_dine_110 : decode cX8_dine 110 = .ok (.iinc 6 1, 3) := by decide +kernel
theorem dX8_dine_113 : decode cX8_dine 113 = .ok (.goto (-101), 3) := by decide +kernel
theorem dX8_dine_116 : decode cX8_dine 116 = .ok (.iconst 0, 1) := by decide +kernel
theorem dX8_dine_117 : decode cX8_dine 117 = .ok (.istore 6, 2) := by decide +kernel
theorem dX8_dine_119 : decode cX8_dine 119 = .ok (.iload 6, 2) := by decide +kernel
theorem dX8_dine_121 : decode cX8_dine 121 = .ok (.aload_n 0, 1) := by decide +kernel
theorem dX8_dine_122 : decode cX8_dine 122 = .ok (.getfield 111, 3) := by decide +kernel
theorem dX8_dine_125 : decode cX8_dine 125 = .ok (.if_icmp .ge 33, 3) := by decide +kernel
theorem dX8_dine_128 : decode cX8_dine 128 = .ok (.iload_n 2, 1) := by decide +kernel
theorem dX8_dine_129 : decode cX8_dine 129 = .ok (.iload 6, 2) := by decide +kernel
theorem dX8_dine_131 : decode cX8_dine 131 = .ok (.ishr, 1) := by decide +kernel
theorem dX8_dine_132 : decode cX8_dine 132 = .ok (.iconst 1, 1) := by decide +kernel
theorem dX8_dine_133 : decode cX8_dine 133 = .ok (.iand, 1) := by decide +kernel
theorem dX8_dine_134 : decode cX8_dine 134 = .ok (.ifCond .ne 18, 3) := by decide +kernel
theorem dX8_dine_137 : decode cX8_dine 137 = .ok (.aload_n 0, 1) := by decide +kernel
theorem dX8_dine_138 : decode cX8_dine 138 = .ok (.iload 4, 2) := by decide +kernel
theorem dX8_dine_140 : decode cX8_dine 140 = .ok (.aload_n 0, 1) := by decide +kernel
theorem dX8_dine_141 : decode cX8_dine 141 = .ok (.getfield 22, 3) := by decide +kernel
theorem dX8_dine_144 : decode cX8_dine 144 = .ok (.iconst 4, 1) := by decide +kernel
theorem dX8_dine_145 : decode cX8_dine 145 = .ok (.iload 6, 2) := by decide +kernel
theorem dX8_dine_147 : decode cX8_dine 147 = .ok (.imul, 1) := by decide +kernel
theorem dX8_dine_148 : decode cX8_dine 148 = .ok (.iaload, 1) := by decide +kernel
theorem dX8_dine_149 : decode cX8_dine 149 = .ok (.invokevirtual 145, 3) := by decide +kernel
theorem dX8_dine_152 : decode cX8_dine 152 = .ok (.iinc 6 1, 3) := by decide +kernel
theorem dX8_dine_155 : decode cX8_dine 155 = .ok (.goto (-36), 3) := by decide +kernel
theorem dX8_dine_158 : decode cX8_dine 158 = .ok (.aload_n 0, 1) := by decide +kernel
theorem dX8_dine_159 : decode cX8_dine 159 = .ok (.getfield 31, 3) := by decide +kernel
theorem dX8_dine_162 : decode cX8_dine 162 = .ok (.iload 4, 2) := by decide +kernel
theorem dX8_dine_164 : decode cX8_dine 164 = .ok (.bipush 96, 2) := by decide +kernel
theorem dX8_dine_166 : decode cX8_dine 166 = .ok (.iadd, 1) := by decide +kernel
theorem dX8_dine_167 : decode cX8_dine 167 = .ok (.dup2, 1) := by decide +kernel
theorem dX8_dine_168 : decode cX8_dine 168 = .ok (.iaload, 1) := by decide +kernel
theorem dX8_dine_169 : decode cX8_dine 169 = .ok (.iconst 1, 1) := by decide +kernel
theorem dX8_dine_170 : decode cX8_dine 170 = .ok (.iadd, 1) := by decide +kernel
theorem dX8_dine_171 : decode cX8_dine 171 = .ok (.iastore, 1) := by decide +kernel
theorem dX8_dine_172 : decode cX8_dine 172 = .ok (.iload 5, 2) := by decide +kernel
theorem dX8_dine_174 : decode cX8_dine 174 = .ok (.ireturn, 1) := by decide +kernel
theorem dX8_tread_0 : decode cX8_tread 0 = .ok (.aload_n 0, 1) := by decide +kernel
theorem dX8_tread_1 : decode cX8_tread 1 = .ok (.getfield 31, 3) := by decide +kernel
theorem dX8_tread_4 : decode cX8_tread 4 = .ok (.iload_n 1, 1) := by decide +kernel
theorem dX8_tread_5 : decode cX8_tread 5 = .ok (.bipush 93, 2) := by decide +kernel
theorem dX8_tread_7 : decode cX8_tread 7 = .ok (.iadd, 1) := by decide +kernel
theorem dX8_tread_8 : decode cX8_tread 8 = .ok (.iload_n 2, 1) := by decide +kernel
theorem dX8_tread_9 : decode cX8_tread 9 = .ok (.iadd, 1) := by decide +kernel
theorem dX8_tread_10 : decode cX8_tread 10 = .ok (.dup2, 1) := by decide +kernel
theorem dX8_tread_11 : decode cX8_tread 11 = .ok (.iaload, 1) := by decide +kernel
theorem dX8_tread_12 : decode cX8_tread 12 = .ok (.iconst 1, 1) := by decide +kernel
theorem dX8_tread_13 : decode cX8_tread 13 = .ok (.iadd, 1) := by decide +kernel
theorem dX8_tread_14 : decode cX8_tread 14 = .ok (.iastore, 1) := by decide +kernel
theorem dX8_tread_15 : decode cX8_tread 15 = .ok (.aload_n 0, 1) := by decide +kernel
theorem dX8_tread_16 : decode cX8_tread 16 = .ok (.getfield 31, 3) := by decide +kernel
theorem dX8_tread_19 : decode cX8_tread 19 = .ok (.iload_n 1, 1) := by decide +kernel
theorem dX8_tread_20 : decode cX8_tread 20 = .ok (.bipush 93, 2) := by decide +kernel
theorem dX8_tread_22 : decode cX8_tread 22 = .ok (.iadd, 1) := by decide +kernel
theorem dX8_tread_23 : decode cX8_tread 23 = .ok (.iload_n 2, 1) := by decide +kernel
theorem dX8_tread_24 : decode cX8_tread 24 = .ok (.iadd, 1) := by decide +kernel
theorem dX8_tread_25 : decode cX8_tread 25 = .ok (.iaload, 1) := by decide +kernel
theorem dX8_tread_26 : decode cX8_tread 26 = .ok (.iconst 4, 1) := by decide +kernel
theorem dX8_tread_27 : decode cX8_tread 27 = .ok (.if_icmp .ge 4, 3) := by decide +kernel
theorem dX8_tread_30 : decode cX8_tread 30 = .ok (.return_, 1) := by decide +kernel
theorem dX8_tread_31 : decode cX8_tread 31 = .ok (.aload_n 0, 1) := by decide +kernel
theorem dX8_tread_32 : decode cX8_tread 32 = .ok (.getfield 31, 3) := by decide +kernel
theorem dX8_tread_35 : decode cX8_tread 35 = .ok (.iload_n 1, 1) := by decide +kernel
theorem dX8_tread_36 : decode cX8_tread 36 = .ok (.bipush 93, 2) := by decide +kernel
theorem dX8_tread_38 : decode cX8_tread 38 = .ok (.iadd, 1) := by decide +kernel
theorem dX8_tread_39 : decode cX8_tread 39 = .ok (.iload_n 2, 1) := by decide +kernel
theorem dX8_tread_40 : decode cX8_tread 40 = .ok (.iadd, 1) := by decide +kernel
theorem dX8_tread_41 : decode cX8_tread 41 = .ok (.iconst 0, 1) := by decide +kernel
theorem dX8_tread_42 : decode cX8_tread 42 = .ok (.iastore, 1) := by decide +kernel
theorem dX8_tread_43 : decode cX8_tread 43 = .ok (.aload_n 0, 1) := by decide +kernel
theorem dX8_tread_44 : decode cX8_tread 44 = .ok (.getfield 31, 3) := by decide +kernel
theorem dX8_tread_47 : decode cX8_tread 47 = .ok (.iload_n 1, 1) := by decide +kernel
theorem dX8_tread_48 : decode cX8_tread 48 = .ok (.bipush 90, 2) := by decide +kernel
theorem dX8_tread_50 : decode cX8_tread 50 = .ok (.iadd, 1) := by decide +kernel
theorem dX8_tread_51 : decode cX8_tread 51 = .ok (.iload_n 2, 1) := by decide +kernel
theorem dX8_tread_52 : decode cX8_tread 52 = .ok (.iadd, 1) := by decide +kernel
theorem dX8_tread_53 : decode cX8_tread 53 = .ok (.iaload, 1) := by decide +kernel
theorem dX8_tread_54 : decode cX8_tread 54 = .ok (.ifCond .le 69, 3) := by decide +kernel
theorem dX8_tread_57 : decode cX8_tread 57 = .ok (.aload_n 0, 1) := by decide +kernel
theorem dX8_tread_58 : decode cX8_tread 58 = .ok (.getfield 31, 3) := by decide +kernel
theorem dX8_tread_61 : decode cX8_tread 61 = .ok (.iload_n 1, 1) := by decide +kernel
theorem dX8_tread_62 : decode cX8_tread 62 = .ok (.bipush 90, 2) := by decide +kernel
theorem dX8_tread_64 : decode cX8_tread 64 = .ok (.iadd, 1) := by decide +kernel
theorem dX8_tread_65 : decode cX8_tread 65 = .ok (.iload_n 2, 1) := by decide +kernel
theorem dX8_tread_66 : decode cX8_tread 66 = .ok (.iadd, 1) := by decide +kernel
theorem dX8_tread_67 : decode cX8_tread 67 = .ok (.dup2, 1) := by decide +kernel
theorem dX8_tread_68 : decode cX8_tread 68 = .ok (.iaload, 1) := by decide +kernel
theorem dX8_tread_69 : decode cX8_tread 69 = .ok (.iconst 1, 1) := by decide +kernel
theorem dX8_tread_70 : decode cX8_tread 70 = .ok (.isub, 1) := by decide +kernel
theorem dX8_tread_71 : decode cX8_tread 71 = .ok (.iastore, 1) := by decide +kernel
theorem dX8_tread_72 : decode cX8_tread 72 = .ok (.iconst 0, 1) := by decide +kernel
theorem dX8_tread_73 : decode cX8_tread 73 = .ok (.istore_n 3, 1) := by decide +kernel
theorem dX8_tread_74 : decode cX8_tread 74 = .ok (.iload_n 3, 1) := by decide +kernel
theorem dX8_tread_75 : decode cX8_tread 75 = .ok (.aload_n 0, 1) := by decide +kernel
theorem dX8_tread_76 : decode cX8_tread 76 = .ok (.getfield 31, 3) := by decide +kernel
theorem dX8_tread_79 : decode cX8_tread 79 = .ok (.iload_n 1, 1) := by decide +kernel
theorem dX8_tread_80 : decode cX8_tread 80 = .ok (.bipush 90, 2) := by decide +kernel
theorem dX8_tread_82 : decode cX8_tread 82 = .ok (.iadd, 1) := by decide +kernel
theorem dX8_tread_83 : decode cX8_tread 83 = .ok (.iload_n 2, 1) := by decide +kernel
theorem dX8_tread_84 : decode cX8_tread 84 = .ok (.iadd, 1) := by decide +kernel
theorem dX8_tread_85 : decode cX8_tread 85 = .ok (.iaload, 1) := by decide +kernel
theorem dX8_tread_86 : decode cX8_tread 86 = .ok (.if_icmp .ge 37, 3) := by decide +kernel
theorem dX8_tread_89 : decode cX8_tread 89 = .ok (.aload_n 0, 1) := by decide +kernel
theorem dX8_tread_90 : decode cX8_tread 90 = .ok (.getfield 31, 3) := by decide +kernel
theorem dX8_tread_93 : decode cX8_tread 93 = .ok (.iload_n 1, 1) := by decide +kernel
theorem dX8_tread_94 : decode cX8_tread 94 = .ok (.bipush 30, 2) := by decide +kernel
theorem dX8_tread_96 : decode cX8_tread 96 = .ok (.iload_n 2, 1) := by decide +kernel
theorem dX8_tread_97 : decode cX8_tread 97 = .ok (.imul, 1) := by decide +kernel
theorem dX8_tread_98 : decode cX8_tread 98 = .ok (.iadd, 1) := by decide +kernel
theorem dX8_tread_99 : decode cX8_tread 99 = .ok (.iload_n 3, 1) := by decide +kernel
theorem dX8_tread_100 : decode cX8_tread 100 = .ok (.iadd, 1) := by decide +kernel
theorem dX8_tread_101 : decode cX8_tread 101 = .ok (.aload_n 0, 1) := by decide +kernel
theorem dX8_tread_102 : decode cX8_tread 102 = .ok (.getfield 31, 3) := by decide +kernel
theorem dX8_tread_105 : decode cX8_tread 105 = .ok (.iload_n 1, 1) := by decide +kernel
theorem dX8_tread_106 : decode cX8_tread 106 = .ok (.bipush 30, 2) := by decide +kernel
theorem dX8_tread_108 : decode cX8_tread 108 = .ok (.iload_n 2, 1) := by decide +kernel
theorem dX8_tread_109 : decode cX8_tread 109 = .ok (.imul, 1) := by decide +kernel
theorem dX8_tread_110 : decode cX8_tread 110 = .ok (.iadd, 1) := by decide +kernel
theorem dX8_tread_111 : decode cX8_tread 111 = .ok (.iload_n 3, 1) := by decide +kernel
theorem dX8_tread_112 : decode cX8_tread 112 = .ok (.iadd, 1) := by decide +kernel
theorem dX8_tread_113 : decode cX8_tread 113 = .ok (.iconst 1, 1) := by decide +kernel
theorem dX8_tread_114 : decode cX8_tread 114 = .ok (.iadd, 1) := by decide +kernel
theorem dX8_tread_115 : decode cX8_tread 115 = .ok (.iaload, 1) := by decide +kernel
theorem dX8_tread_116 : decode cX8_tread 116 = .ok (.iastore, 1) := by decide +kernel
theorem dX8_tread_117 : decode cX8_tread 117 = .ok (.iinc 3 1, 3) := by decide +kernel
theorem dX8_tread_120 : decode cX8_tread 120 = .ok (.goto (-46), 3) := by decide +kernel
theorem dX8_tread_123 : decode cX8_tread 123 = .ok (.return_, 1) := by decide +kernel
set_option maxRecDepth 20000 in
theorem ggX8_dinner_X8_in : GoodIn wsX8_dinner wsX8_in := goodIn_r _ [5] (by decide +kernel) (by decide +kernel)
set_option maxRecDepth 20000 in
theorem gX8_dinner_X8_in : GoodIn wsX8_dinner (va_wsS RX8 59 yX8_in wsX8_in) := goodIn_app (goodIn_of _ (by decide +kernel)) ggX8_dinner_X8_in
set_option maxRecDepth 20000 in
theorem ggX8_dinner_X8_keepAct : GoodIn wsX8_dinner wsX8_keepAct := goodIn_r _ [9, 10, 11, 12, 13, 28, 29, 30, 31, 32, 33, 34, 35, 36, 37, 38, 39, 40, 41, 42, 43, 44, 45, 46, 47, 48, 49, 50, 51, 52, 53, 54] (by decide +kernel) (by decide +kernel)
set_option maxRecDepth 20000 in
theorem gX8_dinner_X8_keepAct : GoodIn wsX8_dinner (wsV RX8 149 RX8 yX8_keepAct wsX8_keepAct) := goodIn_app (goodIn_of _ (by decide +kernel)) ggX8_dinner_X8_keepAct
set_option maxRecDepth 20000 in
theorem ggX8_dinner_X8_dine : GoodIn wsX8_dinner wsX8_dine := goodIn_r _ [17, 1, 18, 12, 19, 20, 21, 4, 22, 23, 24, 25, 26, 27, 28, 29, 30, 31, 32, 33, 34, 35, 36, 37, 38, 39, 40, 41, 42, 43, 44, 45, 46, 47, 48, 49, 50, 51, 52, 53, 54] (by decide +kernel) (by decide +kernel)
set_option maxRecDepth 20000 in
theorem gX8_dinner_X8_dine : GoodIn wsX8_dinner (wsV RX8 152 RX8 yX8_dine wsX8_dine) := goodIn_app (goodIn_of _ (by decide +kernel)) ggX8_dinner_X8_dine
theorem dX8_dinner_0 : decode cX8_dinner 0 = .ok (.iload_n 1, 1) := by decide +kernel
theorem dX8_dinner_1 : decode cX8_dinner 1 = .ok (.i2l, 1) := by decide +kernel
theorem dX8_dinner_2 : decode cX8_dinner 2 = .ok (.lconst 0, 1) := by decide +kernel
theorem dX8_dinner_3 : decode cX8_dinner 3 = .ok (.iconst 1, 1) := by decide +kernel
theorem dX8_dinner_4 : decode cX8_dinner 4 = .ok (.aload_n 0, 1) := by decide +kernel
theorem dX8_dinner_5 : decode cX8_dinner 5 = .ok (.getfield 111, 3) := by decide +kernel
theorem dX8_dinner_8 : decode cX8_dinner 8 = .ok (.ishl, 1) := by decide +kernel
theorem dX8_dinner_9 : decode cX8_dinner 9 = .ok (.iconst 1, 1) := by decide +kernel
theorem dX8_dinner_10 : decode cX8_dinner 10 = .ok (.isub, 1) := by decide +kernel
theorem dX8_dinner_11 : decode cX8_dinner 11 = .ok (.i2l, 1) := by decide +kernel
theorem dX8_dinner_12 : decode cX8_dinner 12 = .ok (.invokestatic 59, 3) := by decide +kernel
theorem dX8_dinner_15 : decode cX8_dinner 15 = .ok (.ifCond .eq 29, 3) := by decide +kernel
theorem dX8_dinner_18 : decode cX8_dinner 18 = .ok (.iload_n 2, 1) := by decide +kernel
theorem dX8_dinner_19 : decode cX8_dinner 19 = .ok (.i2l, 1) := by decide +kernel
theorem dX8_dinner_20 : decode cX8_dinner 20 = .ok (.lconst 0, 1) := by decide +kernel
theorem dX8_dinner_21 : decode cX8_dinner 21 = .ok (.iconst 1, 1) := by decide +kernel
theorem dX8_dinner_22 : decode cX8_dinner 22 = .ok (.aload_n 0, 1) := by decide +kernel
theorem dX8_dinner_23 : decode cX8_dinner 23 = .ok (.getfield 111, 3) := by decide +kernel
theorem dX8_dinner_26 : decode cX8_dinner 26 = .ok (.ishl, 1) := by decide +kernel
theorem dX8_dinner_27 : decode cX8_dinner 27 = .ok (.iconst 1, 1) := by decide +kernel
theorem dX8_dinner_28 : decode cX8_dinner 28 = .ok (.isub, 1) := by decide +kernel
theorem dX8_dinner_29 : decode cX8_dinner 29 = .ok (.i2l, 1) := by decide +kernel
theorem dX8_dinner_30 : decode cX8_dinner 30 = .ok (.invokestatic 59, 3) := by decide +kernel
theorem dX8_dinner_33 : decode cX8_dinner 33 = .ok (.ifCond .eq 11, 3) := by decide +kernel
theorem dX8_dinner_36 : decode cX8_dinner 36 = .ok (.iload_n 2, 1) := by decide +kernel
theorem dX8_dinner_37 : decode cX8_dinner 37 = .ok (.iload_n 1, 1) := by decide +kernel
theorem dX8_dinner_38 : decode cX8_dinner 38 = .ok (.iconst (-1), 1) := by decide +kernel
theorem dX8_dinner_39 : decode cX8_dinner 39 = .ok (.ixor, 1) := by decide +kernel
theorem dX8_dinner_40 : decode cX8_dinner 40 = .ok (.iand, 1) := by decide +kernel
theorem dX8_dinner_41 : decode cX8_dinner 41 = .ok (.ifCond .eq 6, 3) := by decide +kernel
theorem dX8_dinner_44 : decode cX8_dinner 44 = .ok (.bipush (-2), 2) := by decide +kernel
theorem dX8_dinner_46 : decode cX8_dinner 46 = .ok (.ireturn, 1) := by decide +kernel
theorem dX8_dinner_47 : decode cX8_dinner 47 = .ok (.aload_n 0, 1) := by decide +kernel
theorem dX8_dinner_48 : decode cX8_dinner 48 = .ok (.invokevirtual 149, 3) := by decide +kernel
theorem dX8_dinner_51 : decode cX8_dinner 51 = .ok (.aload_n 0, 1) := by decide +kernel
theorem dX8_dinner_52 : decode cX8_dinner 52 = .ok (.iconst 0, 1) := by decide +kernel
theorem dX8_dinner_53 : decode cX8_dinner 53 = .ok (.iload_n 1, 1) := by decide +kernel
theorem dX8_dinner_54 : decode cX8_dinner 54 = .ok (.iload_n 2, 1) := by decide +kernel
theorem dX8_dinner_55 : decode cX8_dinner 55 = .ok (.invokevirtual 152, 3) := by decide +kernel
theorem dX8_dinner_58 : decode cX8_dinner 58 = .ok (.ireturn, 1) := by decide +kernel
set_option maxRecDepth 20000 in
theorem ggX8_moth_X8_isRoom : GoodIn wsX8_moth wsX8_isRoom := goodIn_r _ [6, 7, 8, 9, 5, 10, 18, 19, 20, 21, 22, 23, 24, 25, 26, 27, 28, 29, 30, 31, 32, 33, 34, 35, 36, 37, 38, 39, 40, 41, 42, 43, 44] (by decide +kernel) (by decide +kernel)
set_option maxRecDepth 20000 in
theorem gX8_moth_X8_isRoom : GoodIn wsX8_moth (wsV RX8 120 RX8 yX8_isRoom wsX8_isRoom) := goodIn_app (goodIn_of _ (by decide +kernel)) ggX8_moth_X8_isRoom
set_option maxRecDepth 20000 in
theorem ggX8_moth_X8_keepAct : GoodIn wsX8_moth wsX8_keepAct := goodIn_r _ [14, 15, 16, 1, 17, 18, 19, 20, 21, 22, 23, 24, 25, 26, 27, 28, 29, 30, 31, 32, 33, 34, 35, 36, 37, 38, 39, 40, 41, 42, 43, 44] (by decide +kernel) (by decide +kernel)
set_option maxRecDepth 20000 in
theorem gX8_moth_X8_keepAct : GoodIn wsX8_moth (wsV RX8 149 RX8 yX8_keepAct wsX8_keepAct) := goodIn_app (goodIn_of _ (by decide +kernel)) ggX8_moth_X8_keepAct
theorem dX8_moth_0 : decode cX8_moth 0 = .ok (.aload_n 0, 1) := by decide +kernel
theorem dX8_moth_1 : decode cX8_moth 1 = .ok (.iload_n 1, 1) := by decide +kernel
theorem dX8_moth_2 : decode cX8_moth 2 = .ok (.invokevirtual 120, 3) := by decide +kernel
theorem dX8_moth_5 : decode cX8_moth 5 = .ok (.ifCond .ne 5, 3) := by decide +kernel
theorem dX8_moth_8 : decode cX8_moth 8 = .ok (.iconst (-1), 1) := by decide +kernel
theorem dX8_moth_9 : decode cX8_moth 9 = .ok (.ireturn, 1) := by decide +kernel
theorem dX8_moth_10 : decode cX8_moth 10 = .ok (.aload_n 0, 1) := by decide +kernel
theorem dX8_moth_11 : decode cX8_moth 11 = .ok (.getfield 31, 3) := by decide +kernel
theorem dX8_moth_14 : decode cX8_moth 14 = .ok (.bipush 90, 2) := by decide +kernel
theorem dX8_moth_16 : decode cX8_moth 16 = .ok (.iload_n 1, 1) := by decide +kernel
theorem dX8_moth_17 : decode cX8_moth 17 = .ok (.iadd, 1) := by decide +kernel
theorem dX8_moth_18 : decode cX8_moth 18 = .ok (.iaload, 1) := by decide +kernel
theorem dX8_moth_19 : decode cX8_moth 19 = .ok (.ifCond .ne 6, 3) := by decide +kernel
theorem dX8_moth_22 : decode cX8_moth 22 = .ok (.bipush (-3), 2) := by decide +kernel
theorem dX8_moth_24 : decode cX8_moth 24 = .ok (.ireturn, 1) := by decide +kernel
theorem dX8_moth_25 : decode cX8_moth 25 = .ok (.aload_n 0, 1) := by decide +kernel
theorem dX8_moth_26 : decode cX8_moth 26 = .ok (.invokevirtual 149, 3) := by decide +kernel
theorem dX8_moth_29 : decode cX8_moth 29 = .ok (.aload_n 0, 1) := by decide +kernel
theorem dX8_moth_30 : decode cX8_moth 30 = .ok (.getfield 31, 3) := by decide +kernel
theorem dX8_moth_33 : decode cX8_moth 33 = .ok (.bipush 90, 2) := by decide +kernel
theorem dX8_moth_35 : decode cX8_moth 35 = .ok (.iload_n 1, 1) := by decide +kernel
theorem dX8_moth_36 : decode cX8_moth 36 = .ok (.iadd, 1) := by decide +kernel
theorem dX8_moth_37 : decode cX8_moth 37 = .ok (.dup2, 1) := by decide +kernel
theorem dX8_moth_38 : decode cX8_moth 38 = .ok (.iaload, 1) := by decide +kernel
theorem dX8_moth_39 : decode cX8_moth 39 = .ok (.iconst 1, 1) := by decide +kernel
theorem dX8_moth_40 : decode cX8_moth 40 = .ok (.isub, 1) := by decide +kernel
theorem dX8_moth_41 : decode cX8_moth 41 = .ok (.iastore, 1) := by decide +kernel
theorem dX8_moth_42 : decode cX8_moth 42 = .ok (.aload_n 0, 1) := by decide +kernel
theorem dX8_moth_43 : decode cX8_moth 43 = .ok (.getfield 31, 3) := by decide +kernel
theorem dX8_moth_46 : decode cX8_moth 46 = .ok (.bipush 30, 2) := by decide +kernel
theorem dX8_moth_48 : decode cX8_moth 48 = .ok (.iload_n 1, 1) := by decide +kernel
theorem dX8_moth_49 : decode cX8_moth 49 = .ok (.imul, 1) := by decide +kernel
theorem dX8_moth_50 : decode cX8_moth 50 = .ok (.aload_n 0, 1) := by decide +kernel
theorem dX8_moth_51 : decode cX8_moth 51 = .ok (.getfield 31, 3) := by decide +kernel
theorem dX8_moth_54 : decode cX8_moth 54 = .ok (.bipush 90, 2) := by decide +kernel
theorem dX8_moth_56 : decode cX8_moth 56 = .ok (.iload_n 1, 1) := by decide +kernel
theorem dX8_moth_57 : decode cX8_moth 57 = .ok (.iadd, 1) := by decide +kernel
theorem dX8_moth_58 : decode cX8_moth 58 = .ok (.iaload, 1) := by decide +kernel
theorem dX8_moth_59 : decode cX8_moth 59 = .ok (.iadd, 1) := by decide +kernel
theorem dX8_moth_60 : decode cX8_moth 60 = .ok (.iaload, 1) := by decide +kernel
theorem dX8_moth_61 : decode cX8_moth 61 = .ok (.ireturn, 1) := by decide +kernel
set_option maxRecDepth 20000 in
theorem ggX8_mend_X8_isRoom : GoodIn wsX8_mend wsX8_isRoom := goodIn_r _ [6, 7, 8, 9, 5, 10, 18, 19, 20, 21, 22, 23, 24, 25, 26, 27, 28, 29, 30, 31, 32, 33, 34, 35, 36, 37, 38, 39, 40, 41, 42, 43, 44] (by decide +kernel) (by decide +kernel)
set_option maxRecDepth 20000 in
theorem gX8_mend_X8_isRoom : GoodIn wsX8_mend (wsV RX8 120 RX8 yX8_isRoom wsX8_isRoom) := goodIn_app (goodIn_of _ (by decide +kernel)) ggX8_mend_X8_isRoom
set_option maxRecDepth 20000 in
theorem ggX8_mend_X8_keepAct : GoodIn wsX8_mend wsX8_keepAct := goodIn_r _ [14, 15, 16, 1, 17, 18, 19, 20, 21, 22, 23, 24, 25, 26, 27, 28, 29, 30, 31, 32, 33, 34, 35, 36, 37, 38, 39, 40, 41, 42, 43, 44] (by decide +kernel) (by decide +kernel)
set_option maxRecDepth 20000 in
theorem gX8_mend_X8_keepAct : GoodIn wsX8_mend (wsV RX8 149 RX8 yX8_keepAct wsX8_keepAct) := goodIn_app (goodIn_of _ (by decide +kernel)) ggX8_mend_X8_keepAct
theorem dX8_mend_0 : decode cX8_mend 0 = .ok (.aload_n 0, 1) := by decide +kernel
theorem dX8_mend_1 : decode cX8_mend 1 = .ok (.iload_n 1, 1) := by decide +kernel
theorem dX8_mend_2 : decode cX8_mend 2 = .ok (.invokevirtual 120, 3) := by decide +kernel
theorem dX8_mend_5 : decode cX8_mend 5 = .ok (.ifCond .ne 5, 3) := by decide +kernel
theorem dX8_mend_8 : decode cX8_mend 8 = .ok (.iconst (-1), 1) := by decide +kernel
theorem dX8_mend_9 : decode cX8_mend 9 = .ok (.ireturn, 1) := by decide +kernel
theorem dX8_mend_10 : decode cX8_mend 10 = .ok (.aload_n 0, 1) := by decide +kernel
theorem dX8_mend_11 : decode cX8_mend 11 = .ok (.getfield 31, 3) := by decide +kernel
theorem dX8_mend_14 : decode cX8_mend 14 = .ok (.bipush 93, 2) := by decide +kernel
theorem dX8_mend_16 : decode cX8_mend 16 = .ok (.iload_n 1, 1) := by decide +kernel
theorem dX8_mend_17 : decode cX8_mend 17 = .ok (.iadd, 1) := by decide +kernel
theorem dX8_mend_18 : decode cX8_mend 18 = .ok (.iaload, 1) := by decide +kernel
theorem dX8_mend_19 : decode cX8_mend 19 = .ok (.ifCond .ne 6, 3) := by decide +kernel
theorem dX8_mend_22 : decode cX8_mend 22 = .ok (.bipush (-3), 2) := by decide +kernel
theorem dX8_mend_24 : decode cX8_mend 24 = .ok (.ireturn, 1) := by decide +kernel
theorem dX8_mend_25 : decode cX8_mend 25 = .ok (.aload_n 0, 1) := by decide +kernel
theorem dX8_mend_26 : decode cX8_mend 26 = .ok (.invokevirtual 149, 3) := by decide +kernel
theorem dX8_mend_29 : decode cX8_mend 29 = .ok (.aload_n 0, 1) := by decide +kernel
theorem dX8_mend_30 : decode cX8_mend 30 = .ok (.getfield 31, 3) := by decide +kernel
theorem dX8_mend_33 : decode cX8_mend 33 = .ok (.bipush 93, 2) := by decide +kernel
theorem dX8_mend_35 : decode cX8_mend 35 = .ok (.iload_n 1, 1) := by decide +kernel
theorem dX8_mend_36 : decode cX8_mend 36 = .ok (.iadd, 1) := by decide +kernel
theorem dX8_mend_37 : decode cX8_mend 37 = .ok (.iaload, 1) := by decide +kernel
theorem dX8_mend_38 : decode cX8_mend 38 = .ok (.istore_n 2, 1) := by decide +kernel
theorem dX8_mend_39 : decode cX8_mend 39 = .ok (.aload_n 0, 1) := by decide +kernel
theorem dX8_mend_40 : decode cX8_mend 40 = .ok (.getfield 31, 3) := by decide +kernel
theorem dX8_mend_43 : decode cX8_mend 43 = .ok (.bipush 93, 2) := by decide +kernel
theorem dX8_mend_45 : decode cX8_mend 45 = .ok (.iload_n 1, 1) := by decide +kernel
theorem dX8_mend_46 : decode cX8_mend 46 = .ok (.iadd, 1) := by decide +kernel
theorem dX8_mend_47 : decode cX8_mend 47 = .ok (.iconst 0, 1) := by decide +kernel
theorem dX8_mend_48 : decode cX8_mend 48 = .ok (.iastore, 1) := by decide +kernel
theorem dX8_mend_49 : decode cX8_mend 49 = .ok (.iload_n 2, 1) := by decide +kernel
theorem dX8_mend_50 : decode cX8_mend 50 = .ok (.ireturn, 1) := by decide +kernel
theorem dX8_undo_0 : decode cX8_undo 0 = .ok (.aload_n 0, 1) := by decide +kernel
theorem dX8_undo_1 : decode cX8_undo 1 = .ok (.getfield 117, 3) := by decide +kernel
theorem dX8_undo_4 : decode cX8_undo 4 = .ok (.ifCond .ne 6, 3) := by decide +kernel
theorem dX8_undo_7 : decode cX8_undo 7 = .ok (.bipush (-3), 2) := by decide +kernel
theorem dX8_undo_9 : decode cX8_undo 9 = .ok (.ireturn, 1) := by decide +kernel
theorem dX8_undo_10 : decode cX8_undo 10 = .ok (.aload_n 0, 1) := by decide +kernel
theorem dX8_undo_11 : decode cX8_undo 11 = .ok (.dup, 1) := by decide +kernel
theorem dX8_undo_12 : decode cX8_undo 12 = .ok (.getfield 117, 3) := by decide +kernel
theorem dX8_undo_15 : decode cX8_undo 15 = .ok (.iconst 1, 1) := by decide +kernel
theorem dX8_undo_16 : decode cX8_undo 16 = .ok (.isub, 1) := by decide +kernel
theorem dX8_undo_17 : decode cX8_undo 17 = .ok (.putfield 117, 3) := by decide +kernel
theorem dX8_undo_20 : decode cX8_undo 20 = .ok (.aload_n 0, 1) := by decide +kernel
theorem dX8_undo_21 : decode cX8_undo 21 = .ok (.aload_n 0, 1) := by decide +kernel
theorem dX8_undo_22 : decode cX8_undo 22 = .ok (.getfield 142, 3) := by decide +kernel
theorem dX8_undo_25 : decode cX8_undo 25 = .ok (.bipush 15, 2) := by decide +kernel
theorem dX8_undo_27 : decode cX8_undo 27 = .ok (.iadd, 1) := by decide +kernel
theorem dX8_undo_28 : decode cX8_undo 28 = .ok (.bipush 16, 2) := by decide +kernel
theorem dX8_undo_30 : decode cX8_undo 30 = .ok (.irem, 1) := by decide +kernel
theorem dX8_undo_31 : decode cX8_undo 31 = .ok (.putfield 142, 3) := by decide +kernel
theorem dX8_undo_34 : decode cX8_undo 34 = .ok (.iconst 0, 1) := by decide +kernel
theorem dX8_undo_35 : decode cX8_undo 35 = .ok (.istore_n 1, 1) := by decide +kernel
theorem dX8_undo_36 : decode cX8_undo 36 = .ok (.iload_n 1, 1) := by decide +kernel
theorem dX8_undo_37 : decode cX8_undo 37 = .ok (.bipush 97, 2) := by decide +kernel
theorem dX8_undo_39 : decode cX8_undo 39 = .ok (.if_icmp .ge 29, 3) := by decide +kernel
theorem dX8_undo_42 : decode cX8_undo 42 = .ok (.aload_n 0, 1) := by decide +kernel
theorem dX8_undo_43 : decode cX8_undo 43 = .ok (.getfield 31, 3) := by decide +kernel
theorem dX8_undo_46 : decode cX8_undo 46 = .ok (.iload_n 1, 1) := by decide +kernel
theorem dX8_undo_47 : decode cX8_undo 47 = .ok (.aload_n 0, 1) := by decide +kernel
theorem dX8_undo_48 : decode cX8_undo 48 = .ok (.getfield 34, 3) := by decide +kernel
theorem dX8_undo_51 : decode cX8_undo 51 = .ok (.bipush 97, 2) := by decide +kernel
theorem dX8_undo_53 : decode cX8_undo 53 = .ok (.aload_n 0, 1) := by decide +kernel
theorem dX8_undo_54 : decode cX8_undo 54 = .ok (.getfield 142, 3) := by decide +kernel
theorem dX8_undo_57 : decode cX8_undo 57 = .ok (.imul, 1) := by decide +kernel
theorem dX8_undo_58 : decode cX8_undo 58 = .ok (.iload_n 1, 1) := by decide +kernel
theorem dX8_undo_59 : decode cX8_undo 59 = .ok (.iadd, 1) := by decide +kernel
theorem dX8_undo_60 : decode cX8_undo 60 = .ok (.iaload, 1) := by decide +kernel
theorem dX8_undo_61 : decode cX8_undo 61 = .ok (.iastore, 1) := by decide +kernel
theorem dX8_undo_62 : decode cX8_undo 62 = .ok (.iinc 1 1, 3) := by decide +kernel
theorem dX8_undo_65 : decode cX8_undo 65 = .ok (.goto (-29), 3) := by decide +kernel
theorem dX8_undo_68 : decode cX8_undo 68 = .ok (.aload_n 0, 1) := by decide +kernel
theorem dX8_undo_69 : decode cX8_undo 69 = .ok (.getfield 117, 3) := by decide +kernel
theorem dX8_undo_72 : decode cX8_undo 72 = .ok (.ireturn, 1) := by decide +kernel
set_option maxRecDepth 20000 in
theorem ggX8_price_X8_isRoom : GoodIn wsX8_price wsX8_isRoom := goodIn_r _ [7, 8, 9, 10, 6, 11, 12, 13, 14, 15, 16, 17, 18, 19, 20, 21, 22, 23, 24, 25, 26, 27, 28, 29, 30, 31, 32, 33, 34, 35, 36, 37, 38] (by decide +kernel) (by decide +kernel)
set_option maxRecDepth 20000 in
theorem gX8_price_X8_isRoom : GoodIn wsX8_price (wsV RX8 120 RX8 yX8_isRoom wsX8_isRoom) := goodIn_app (goodIn_of _ (by decide +kernel)) ggX8_price_X8_isRoom
theorem dX8_price_0 : decode cX8_price 0 = .ok (.aload_n 0, 1) := by decide +kernel
theorem dX8_price_1 : decode cX8_price 1 = .ok (.iload_n 1, 1) := by decide +kernel
theorem dX8_price_2 : decode cX8_price 2 = .ok (.invokevirtual 120, 3) := by decide +kernel
theorem dX8_price_5 : decode cX8_price 5 = .ok (.ifCond .ne 5, 3) := by decide +kernel
theorem dX8_price_8 : decode cX8_price 8 = .ok (.iconst (-1), 1) := by decide +kernel
theorem dX8_price_9 : decode cX8_price 9 = .ok (.ireturn, 1) := by decide +kernel
theorem dX8_price_10 : decode cX8_price 10 = .ok (.aload_n 0, 1) := by decide +kernel
theorem dX8_price_11 : decode cX8_price 11 = .ok (.getfield 31, 3) := by decide +kernel
theorem dX8_price_14 : decode cX8_price 14 = .ok (.bipush 93, 2) := by decide +kernel
theorem dX8_price_16 : decode cX8_price 16 = .ok (.iload_n 1, 1) := by decide +kernel
theorem dX8_price_17 : decode cX8_price 17 = .ok (.iadd, 1) := by decide +kernel
theorem dX8_price_18 : decode cX8_price 18 = .ok (.iaload, 1) := by decide +kernel
theorem dX8_price_19 : decode cX8_price 19 = .ok (.ineg, 1) := by decide +kernel
theorem dX8_price_20 : decode cX8_price 20 = .ok (.istore_n 2, 1) := by decide +kernel
theorem dX8_price_21 : decode cX8_price 21 = .ok (.iconst 0, 1) := by decide +kernel
theorem dX8_price_22 : decode cX8_price 22 = .ok (.istore_n 3, 1) := by decide +kernel
theorem dX8_price_23 : decode cX8_price 23 = .ok (.iload_n 3, 1) := by decide +kernel
theorem dX8_price_24 : decode cX8_price 24 = .ok (.aload_n 0, 1) := by decide +kernel
theorem dX8_price_25 : decode cX8_price 25 = .ok (.getfield 31, 3) := by decide +kernel
theorem dX8_price_28 : decode cX8_price 28 = .ok (.bipush 90, 2) := by decide +kernel
theorem dX8_price_30 : decode cX8_price 30 = .ok (.iload_n 1, 1) := by decide +kernel
theorem dX8_price_31 : decode cX8_price 31 = .ok (.iadd, 1) := by decide +kernel
theorem dX8_price_32 : decode cX8_price 32 = .ok (.iaload, 1) := by decide +kernel
theorem dX8_price_33 : decode cX8_price 33 = .ok (.if_icmp .ge 47, 3) := by decide +kernel
theorem dX8_price_36 : decode cX8_price 36 = .ok (.aload_n 0, 1) := by decide +kernel
theorem dX8_price_37 : decode cX8_price 37 = .ok (.getfield 31, 3) := by decide +kernel
theorem dX8_price_40 : decode cX8_price 40 = .ok (.bipush 30, 2) := by decide +kernel
theorem dX8_price_42 : decode cX8_price 42 = .ok (.iload_n 1, 1) := by decide +kernel
theorem dX8_price_43 : decode cX8_price 43 = .ok (.imul, 1) := by decide +kernel
theorem dX8_price_44 : decode cX8_price 44 = .ok (.iload_n 3, 1) := by decide +kernel
theorem dX8_price_45 : decode cX8_price 45 = .ok (.iadd, 1) := by decide +kernel
theorem dX8_price_46 : decode cX8_price 46 = .ok (.iaload, 1) := by decide +kernel
theorem dX8_price_47 : decode cX8_price 47 = .ok (.istore 4, 2) := by decide +kernel
theorem dX8_price_49 : decode cX8_price 49 = .ok (.iload_n 2, 1) := by decide +kernel
theorem dX8_price_50 : decode cX8_price 50 = .ok (.iconst 1, 1) := by decide +kernel
theorem dX8_price_51 : decode cX8_price 51 = .ok (.aload_n 0, 1) := by decide +kernel
theorem dX8_price_52 : decode cX8_price 52 = .ok (.getfield 22, 3) := by decide +kernel
theorem dX8_price_55 : decode cX8_price 55 = .ok (.iconst 4, 1) := by decide +kernel
theorem dX8_price_56 : decode cX8_price 56 = .ok (.iload 4, 2) := by decide +kernel
theorem dX8_price_58 : decode cX8_price 58 = .ok (.iconst 2, 1) := by decide +kernel
theorem dX8_price_59 : decode cX8_price 59 = .ok (.idiv, 1) := by decide +kernel
theorem dX8_price_60 : decode cX8_price 60 = .ok (.imul, 1) := by decide +kernel
theorem dX8_price_61 : decode cX8_price 61 = .ok (.iconst 2, 1) := by decide +kernel
theorem dX8_price_62 : decode cX8_price 62 = .ok (.iadd, 1) := by decide +kernel
theorem dX8_price_63 : decode cX8_price 63 = .ok (.iaload, 1) := by decide +kernel
theorem dX8_price_64 : decode cX8_price 64 = .ok (.iadd, 1) := by decide +kernel
theorem dX8_price_65 : decode cX8_price 65 = .ok (.iconst 1, 1) := by decide +kernel
theorem dX8_price_66 : decode cX8_price 66 = .ok (.iload 4, 2) := by decide +kernel
theorem dX8_price_68 : decode cX8_price 68 = .ok (.iconst 2, 1) := by decide +kernel
theorem dX8_price_69 : decode cX8_price 69 = .ok (.irem, 1) := by decide +kernel
theorem dX8_price_70 : decode cX8_price 70 = .ok (.iadd, 1) := by decide +kernel
theorem dX8_price_71 : decode cX8_price 71 = .ok (.imul, 1) := by decide +kernel
theorem dX8_price_72 : decode cX8_price 72 = .ok (.iadd, 1) := by decide +kernel
theorem dX8_price_73 : decode cX8_price 73 = .ok (.istore_n 2, 1) := by decide +kernel
theorem dX8_price_74 : decode cX8_price 74 = .ok (.iinc 3 1, 3) := by decide +kernel
theorem dX8_price_77 : decode cX8_price 77 = .ok (.goto (-54), 3) := by decide +kernel
theorem dX8_price_80 : decode cX8_price 80 = .ok (.iload_n 2, 1) := by decide +kernel
theorem dX8_price_81 : decode cX8_price 81 = .ok (.ifCond .ge 7, 3) := by decide +kernel
theorem dX8_price_84 : decode cX8_price 84 = .ok (.iconst 0, 1) := by decide +kernel
theorem dX8_price_85 : decode cX8_price 85 = .ok (.goto 4, 3) := by decide +kernel
theorem dX8_price_88 : decode cX8_price 88 = .ok (.iload_n 2, 1) := by decide +kernel
theorem dX8_price_89 : decode cX8_price 89 = .ok (.ireturn, 1) := by decide +kernel
theorem dX8_looks_0 : decode cX8_looks 0 = .ok (.aload_n 0, 1) := by decide +kernel
theorem dX8_looks_1 : decode cX8_looks 1 = .ok (.getfield 31, 3) := by decide +kernel
theorem dX8_looks_4 : decode cX8_looks 4 = .ok (.bipush 30, 2) := by decide +kernel
theorem dX8_looks_6 : decode cX8_looks 6 = .ok (.iload_n 1, 1) := by decide +kernel
theorem dX8_looks_7 : decode cX8_looks 7 = .ok (.imul, 1) := by decide +kernel
theorem dX8_looks_8 : decode cX8_looks 8 = .ok (.aload_n 0, 1) := by decide +kernel
theorem dX8_looks_9 : decode cX8_looks 9 = .ok (.getfield 31, 3) := by decide +kernel
theorem dX8_looks_12 : decode cX8_looks 12 = .ok (.bipush 90, 2) := by decide +kernel
theorem dX8_looks_14 : decode cX8_looks 14 = .ok (.iload_n 1, 1) := by decide +kernel
theorem dX8_looks_15 : decode cX8_looks 15 = .ok (.iadd, 1) := by decide +kernel
theorem dX8_looks_16 : decode cX8_looks 16 = .ok (.iaload, 1) := by decide +kernel
theorem dX8_looks_17 : decode cX8_looks 17 = .ok (.iadd, 1) := by decide +kernel
theorem dX8_looks_18 : decode cX8_looks 18 = .ok (.iconst 1, 1) := by decide +kernel
theorem dX8_looks_19 : decode cX8_looks 19 = .ok (.isub, 1) := by decide +kernel
theorem dX8_looks_20 : decode cX8_looks 20 = .ok (.iload_n 2, 1) := by decide +kernel
theorem dX8_looks_21 : decode cX8_looks 21 = .ok (.isub, 1) := by decide +kernel
theorem dX8_looks_22 : decode cX8_looks 22 = .ok (.iaload, 1) := by decide +kernel
theorem dX8_looks_23 : decode cX8_looks 23 = .ok (.istore_n 3, 1) := by decide +kernel
theorem dX8_looks_24 : decode cX8_looks 24 = .ok (.iconst 2, 1) := by decide +kernel
theorem dX8_looks_25 : decode cX8_looks 25 = .ok (.aload_n 0, 1) := by decide +kernel
theorem dX8_looks_26 : decode cX8_looks 26 = .ok (.getfield 22, 3) := by decide +kernel
theorem dX8_looks_29 : decode cX8_looks 29 = .ok (.iconst 4, 1) := by decide +kernel
theorem dX8_looks_30 : decode cX8_looks 30 = .ok (.iload_n 3, 1) := by decide +kernel
theorem dX8_looks_31 : decode cX8_looks 31 = .ok (.iconst 2, 1) := by decide +kernel
theorem dX8_looks_32 : decode cX8_looks 32 = .ok (.idiv, 1) := by decide +kernel
theorem dX8_looks_33 : decode cX8_looks 33 = .ok (.imul, 1) := by decide +kernel
theorem dX8_looks_34 : decode cX8_looks 34 = .ok (.iconst 1, 1) := by decide +kernel
theorem dX8_looks_35 : decode cX8_looks 35 = .ok (.iadd, 1) := by decide +kernel
theorem dX8_looks_36 : decode cX8_looks 36 = .ok (.iaload, 1) := by decide +kernel
theorem dX8_looks_37 : decode cX8_looks 37 = .ok (.imul, 1) := by decide +kernel
theorem dX8_looks_38 : decode cX8_looks 38 = .ok (.iload_n 3, 1) := by decide +kernel
theorem dX8_looks_39 : decode cX8_looks 39 = .ok (.iconst 2, 1) := by decide +kernel
theorem dX8_looks_40 : decode cX8_looks 40 = .ok (.irem, 1) := by decide +kernel
theorem dX8_looks_41 : decode cX8_looks 41 = .ok (.iadd, 1) := by decide +kernel
theorem dX8_looks_42 : decode cX8_looks 42 = .ok (.ireturn, 1) := by decide +kernel
set_option maxRecDepth 20000 in
theorem ggX8_fringe_X8_isRoom : GoodIn wsX8_fringe wsX8_isRoom := goodIn_r _ [6, 7, 8, 9, 5, 10, 16, 17, 18, 19, 20, 21, 22, 23, 24, 25, 26, 27, 28, 29, 30, 31, 32, 33, 34, 35, 36, 37, 38, 39, 40, 41, 42] (by decide +kernel) (by decide +kernel)
set_option maxRecDepth 20000 in
theorem gX8_fringe_X8_isRoom : GoodIn wsX8_fringe (wsV RX8 120 RX8 yX8_isRoom wsX8_isRoom) := goodIn_app (goodIn_of _ (by decide +kernel)) ggX8_fringe_X8_isRoom
set_option maxRecDepth 20000 in
theorem ggX8_fringe_X8_looks : GoodIn wsX8_fringe wsX8_looks := goodIn_r _ [14, 1, 15, 16, 17, 18, 19, 20, 21, 22, 23, 24, 25, 26, 27, 28, 29, 30, 31, 32, 33, 34, 35, 36, 37, 38, 39, 40, 41, 42] (by decide +kernel) (by decide +kernel)
set_option maxRecDepth 20000 in
theorem gX8_fringe_X8_looks : GoodIn wsX8_fringe (wsV RX8 156 RX8 yX8_looks wsX8_looks) := goodIn_app (goodIn_of _ (by decide +kernel)) ggX8_fringe_X8_looks
theorem dX8_fringe_0 : decode cX8_fringe 0 = .ok (.aload_n 0, 1) := by decide +kernel
theorem dX8_fringe_1 : decode cX8_fringe 1 = .ok (.iload_n 1, 1) := by decide +kernel
theorem dX8_fringe_2 : decode cX8_fringe 2 = .ok (.invokevirtual 120, 3) := by decide +kernel
theorem dX8_fringe_5 : decode cX8_fringe 5 = .ok (.ifCond .eq 11, 3) := by decide +kernel
theorem dX8_fringe_8 : decode cX8_fringe 8 = .ok (.aload_n 0, 1) := by decide +kernel
theorem dX8_fringe_9 : decode cX8_fringe 9 = .ok (.iload_n 2, 1) := by decide +kernel
theorem dX8_fringe_10 : decode cX8_fringe 10 = .ok (.invokevirtual 120, 3) := by decide +kernel
theorem dX8_fringe_13 : decode cX8_fringe 13 = .ok (.ifCond .ne 5, 3) := by decide +kernel
theorem dX8_fringe_16 : decode cX8_fringe 16 = .ok (.iconst (-1), 1) := by decide +kernel
theorem dX8_fringe_17 : decode cX8_fringe 17 = .ok (.ireturn, 1) := by decide +kernel
theorem dX8_fringe_18 : decode cX8_fringe 18 = .ok (.iload_n 1, 1) := by decide +kernel
theorem dX8_fringe_19 : decode cX8_fringe 19 = .ok (.iload_n 2, 1) := by decide +kernel
theorem dX8_fringe_20 : decode cX8_fringe 20 = .ok (.if_icmp .ne 6, 3) := by decide +kernel
theorem dX8_fringe_23 : decode cX8_fringe 23 = .ok (.bipush (-2), 2) := by decide +kernel
theorem dX8_fringe_25 : decode cX8_fringe 25 = .ok (.ireturn, 1) := by decide +kernel
theorem dX8_fringe_26 : decode cX8_fringe 26 = .ok (.iconst 0, 1) := by decide +kernel
theorem dX8_fringe_27 : decode cX8_fringe 27 = .ok (.istore_n 3, 1) := by decide +kernel
theorem dX8_fringe_28 : decode cX8_fringe 28 = .ok (.aload_n 0, 1) := by decide +kernel
theorem dX8_fringe_29 : decode cX8_fringe 29 = .ok (.getfield 31, 3) := by decide +kernel
theorem dX8_fringe_32 : decode cX8_fringe 32 = .ok (.bipush 90, 2) := by decide +kernel
theorem dX8_fringe_34 : decode cX8_fringe 34 = .ok (.iload_n 1, 1) := by decide +kernel
theorem dX8_fringe_35 : decode cX8_fringe 35 = .ok (.iadd, 1) := by decide +kernel
theorem dX8_fringe_36 : decode cX8_fringe 36 = .ok (.iaload, 1) := by decide +kernel
theorem dX8_fringe_37 : decode cX8_fringe 37 = .ok (.aload_n 0, 1) := by decide +kernel
theorem dX8_fringe_38 : decode cX8_fringe 38 = .ok (.getfield 31, 3) := by decide +kernel
theorem dX8_fringe_41 : decode cX8_fringe 41 = .ok (.bipush 90, 2) := by decide +kernel
theorem dX8_fringe_43 : decode cX8_fringe 43 = .ok (.iload_n 2, 1) := by decide +kernel
theorem dX8_fringe_44 : decode cX8_fringe 44 = .ok (.iadd, 1) := by decide +kernel
theorem dX8_fringe_45 : decode cX8_fringe 45 = .ok (.iaload, 1) := by decide +kernel
theorem dX8_fringe_46 : decode cX8_fringe 46 = .ok (.if_icmp .ge 15, 3) := by decide +kernel
theorem dX8_fringe_49 : decode cX8_fringe 49 = .ok (.aload_n 0, 1) := by decide +kernel
theorem dX8_fringe_50 : decode cX8_fringe 50 = .ok (.getfield 31, 3) := by decide +kernel
theorem dX8_fringe_53 : decode cX8_fringe 53 = .ok (.bipush 90, 2) := by decide +kernel
theorem dX8_fringe_55 : decode cX8_fringe 55 = .ok (.iload_n 1, 1) := by decide +kernel
theorem dX8_fringe_56 : decode cX8_fringe 56 = .ok (.iadd, 1) := by decide +kernel
theorem dX8_fringe_57 : decode cX8_fringe 57 = .ok (.iaload, 1) := by decide +kernel
theorem dX8_fringe_58 : decode cX8_fringe 58 = .ok (.goto 12, 3) := by decide +kernel
theorem dX8_fringe_61 : decode cX8_fringe 61 = .ok (.aload_n 0, 1) := by decide +kernel
theorem dX8_fringe_62 : decode cX8_fringe 62 = .ok (.getfield 31, 3) := by decide +kernel
theorem dX8_fringe_65 : decode cX8_fringe 65 = .ok (.bipush 90, 2) := by decide +kernel
theorem dX8_fringe_67 : decode cX8_fringe 67 = .ok (.iload_n 2, 1) := by decide +kernel
theorem dX8_fringe_68 : decode cX8_fringe 68 = .ok (.iadd, 1) := by decide +kernel
theorem dX8_fringe_69 : decode cX8_fringe 69 = .ok (.iaload, 1) := by decide +kernel
theorem dX8_fringe_70 : decode cX8_fringe 70 = .ok (.istore 4, 2) := by decide +kernel
theorem dX8_fringe_72 : decode cX8_fringe 72 = .ok (.iload_n 3, 1) := by decide +kernel
theorem dX8_fringe_73 : decode cX8_fringe 73 = .ok (.iload 4, 2) := by decide +kernel
theorem dX8_fringe_75 : decode cX8_fringe 75 = .ok (.if_icmp .ge 24, 3) := by decide +kernel
theorem dX8_fringe_78 : decode cX8_fringe 78 = .ok (.aload_n 0, 1) := by decide +kernel
theorem dX8_fringe_79 : decode cX8_fringe 79 = .ok (.iload_n 1, 1) := by decide +kernel
theorem dX8_fringe_80 : decode cX8_fringe 80 = .ok (.iload_n 3, 1) := by decide +kernel
theorem dX8_fringe_81 : decode cX8_fringe 81 = .ok (.invokevirtual 156, 3) := by decide +kernel
theorem dX8_fringe_84 : decode cX8_fringe 84 = .ok (.aload_n 0, 1) := by decide +kernel
theorem dX8_fringe_85 : decode cX8_fringe 85 = .ok (.iload_n 2, 1) := by decide +kernel
theorem dX8_fringe_86 : decode cX8_fringe 86 = .ok (.iload_n 3, 1) := by decide +kernel
theorem dX8_fringe_87 : decode cX8_fringe 87 = .ok (.invokevirtual 156, 3) := by decide +kernel
theorem dX8_fringe_90 : decode cX8_fringe 90 = .ok (.if_icmp .ne 9, 3) := by decide +kernel
theorem dX8_fringe_93 : decode cX8_fringe 93 = .ok (.iinc 3 1, 3) := by decide +kernel
theorem dX8_fringe_96 : decode cX8_fringe 96 = .ok (.goto (-24), 3) := by decide +kernel
theorem dX8_fringe_99 : decode cX8_fringe 99 = .ok (.iload_n 3, 1) := by decide +kernel
theorem dX8_fringe_100 : decode cX8_fringe 100 = .ok (.ireturn, 1) := by decide +kernel
theorem dX8_troubleOf_0 : decode cX8_troubleOf 0 = .ok (.iconst 0, 1) := by decide +kernel
theorem dX8_troubleOf_1 : decode cX8_troubleOf 1 = .ok (.istore_n 2, 1) := by decide +kernel
theorem dX8_troubleOf_2 : decode cX8_troubleOf 2 = .ok (.iconst 0, 1) := by decide +kernel
theorem dX8_troubleOf_3 : decode cX8_troubleOf 3 = .ok (.istore_n 3, 1) := by decide +kernel
theorem dX8_troubleOf_4 : decode cX8_troubleOf 4 = .ok (.iload_n 3, 1) := by decide +kernel
theorem dX8_troubleOf_5 : decode cX8_troubleOf 5 = .ok (.aload_n 0, 1) := by decide +kernel
theorem dX8_troubleOf_6 : decode cX8_troubleOf 6 = .ok (.getfield 111, 3) := by decide +kernel
theorem dX8_troubleOf_9 : decode cX8_troubleOf 9 = .ok (.if_icmp .ge 95, 3) := by decide +kernel
theorem dX8_troubleOf_12 : decode cX8_troubleOf 12 = .ok (.iload_n 1, 1) := by decide +kernel
theorem dX8_troubleOf_13 : decode cX8_troubleOf 13 = .ok (.iload_n 3, 1) := by decide +kernel
theorem dX8_troubleOf_14 : decode cX8_troubleOf 14 = .ok (.ishr, 1) := by decide +kernel
theorem dX8_troubleOf_15 : decode cX8_troubleOf 15 = .ok (.iconst 1, 1) := by decide +kernel
theorem dX8_troubleOf_16 : decode cX8_troubleOf 16 = .ok (.iand, 1) := by decide +kernel
theorem dX8_troubleOf_17 : decode cX8_troubleOf 17 = .ok (.iconst 1, 1) := by decide +kernel
theorem dX8_troubleOf_18 : decode cX8_troubleOf 18 = .ok (.if_icmp .ne 7, 3) := by decide +kernel
theorem dX8_troubleOf_21 : decode cX8_troubleOf 21 = .ok (.iconst 1, 1) := by decide +kernel
theorem dX8_troubleOf_22 : decode cX8_troubleOf 22 = .ok (.goto 4, 3) := by decide +kernel
theorem dX8_troubleOf_25 : decode cX8_troubleOf 25 = .ok (.iconst 0, 1) := by decide +kernel
theorem dX8_troubleOf_26 : decode cX8_troubleOf 26 = .ok (.istore 4, 2) := by decide +kernel
theorem dX8_troubleOf_28 : decode cX8_troubleOf 28 = .ok (.iload_n 2, 1) := by decide +kernel
theorem dX8_troubleOf_29 : decode cX8_troubleOf 29 = .ok (.iload 4, 2) := by decide +kernel
theorem dX8_troubleOf_31 : decode cX8_troubleOf 31 = .ok (.ifCond .eq 7, 3) := by decide +kernel
theorem dX8_troubleOf_34 : decode cX8_troubleOf 34 = .ok (.iconst 0, 1) := by decide +kernel
theorem dX8_troubleOf_35 : decode cX8_troubleOf 35 = .ok (.goto 13, 3) := by decide +kernel
theorem dX8_troubleOf_38 : decode cX8_troubleOf 38 = .ok (.aload_n 0, 1) := by decide +kernel
theorem dX8_troubleOf_39 : decode cX8_troubleOf 39 = .ok (.getfield 22, 3) := by decide +kernel
theorem dX8_troubleOf_42 : decode cX8_troubleOf 42 = .ok (.iconst 4, 1) := by decide +kernel
theorem dX8_troubleOf_43 : decode cX8_troubleOf 43 = .ok (.iload_n 3, 1) := by decide +kernel
theorem dX8_troubleOf_44 : decode cX8_troubleOf 44 = .ok (.imul, 1) := by decide +kernel
theorem dX8_troubleOf_45 : decode cX8_troubleOf 45 = .ok (.iconst 2, 1) := by decide +kernel
theorem dX8_troubleOf_46 : decode cX8_troubleOf 46 = .ok (.iadd, 1) := by decide +kernel
theorem dX8_troubleOf_47 : decode cX8_troubleOf 47 = .ok (.iaload, 1) := by decide +kernel
theorem dX8_troubleOf_48 : decode cX8_troubleOf 48 = .ok (.iadd, 1) := by decide +kernel
theorem dX8_troubleOf_49 : decode cX8_troubleOf 49 = .ok (.istore_n 2, 1) := by decide +kernel
theorem dX8_troubleOf_50 : decode cX8_troubleOf 50 = .ok (.iconst 0, 1) := by decide +kernel
theorem dX8_troubleOf_51 : decode cX8_troubleOf 51 = .ok (.istore 5, 2) := by decide +kernel
theorem dX8_troubleOf_53 : decode cX8_troubleOf 53 = .ok (.iload 5, 2) := by decide +kernel
theorem dX8_troubleOf_55 : decode cX8_troubleOf 55 = .ok (.iload_n 3, 1) := by decide +kernel
theorem dX8_troubleOf_56 : decode cX8_troubleOf 56 = .ok (.if_icmp .ge 42, 3) := by decide +kernel
theorem dX8_troubleOf_59 : decode cX8_troubleOf 59 = .ok (.iload_n 2, 1) := by decide +kernel
theorem dX8_troubleOf_60 : decode cX8_troubleOf 60 = .ok (.iload 4, 2) := by decide +kernel
theorem dX8_troubleOf_62 : decode cX8_troubleOf 62 = .ok (.ifCond .eq 27, 3) := by decide +kernel
theorem dX8_troubleOf_65 : decode cX8_troubleOf 65 = .ok (.iload_n 1, 1) := by decide +kernel
theorem dX8_troubleOf_66 : decode cX8_troubleOf 66 = .ok (.iload 5, 2) := by decide +kernel
theorem dX8_troubleOf_68 : decode cX8_troubleOf 68 = .ok (.ishr, 1) := by decide +kernel
theorem dX8_troubleOf_69 : decode cX8_troubleOf 69 = .ok (.iconst 1, 1) := by decide +kernel
theorem dX8_troubleOf_70 : decode cX8_troubleOf 70 = .ok (.iand, 1) := by decide +kernel
theorem dX8_troubleOf_71 : decode cX8_troubleOf 71 = .ok (.iconst 1, 1) := by decide +kernel
theorem dX8_troubleOf_72 : decode cX8_troubleOf 72 = .ok (.if_icmp .ne 17, 3) := by decide +kernel
theorem dX8_troubleOf_75 : decode cX8_troubleOf 75 = .ok (.aload_n 0, 1) := by decide +kernel
theorem dX8_troubleOf_76 : decode cX8_troubleOf 76 = .ok (.getfield 25, 3) := by decide +kernel
theorem dX8_troubleOf_79 : decode cX8_troubleOf 79 = .ok (.iconst 5, 1) := by decide +kernel
theorem dX8_troubleOf_80 : decode cX8_troubleOf 80 = .ok (.iload_n 3, 1) := by decide +kernel
theorem dX8_troubleOf_81 : decode cX8_troubleOf 81 = .ok (.imul, 1) := by decide +kernel
theorem dX8_troubleOf_82 : decode cX8_troubleOf 82 = .ok (.iload 5, 2) := by decide +kernel
theorem dX8_troubleOf_84 : decode cX8_troubleOf 84 = .ok (.iadd, 1) := by decide +kernel
theorem dX8_troubleOf_85 : decode cX8_troubleOf 85 = .ok (.iaload, 1) := by decide +kernel
theorem dX8_troubleOf_86 : decode cX8_troubleOf 86 = .ok (.goto 4, 3) := by decide +kernel
theorem dX8_troubleOf_89 : decode cX8_troubleOf 89 = .ok (.iconst 0, 1) := by decide +kernel
theorem dX8_troubleOf_90 : decode cX8_troubleOf 90 = .ok (.iadd, 1) := by decide +kernel
theorem dX8_troubleOf_91 : decode cX8_troubleOf 91 = .ok (.istore_n 2, 1) := by decide +kernel
theorem dX8_troubleOf_92 : decode cX8_troubleOf 92 = .ok (.iinc 5 1, 3) := by decide +kernel
theorem dX8_troubleOf_95 : decode cX8_troubleOf 95 = .ok (.goto (-42), 3) := by decide +kernel
theorem dX8_troubleOf_98 : decode cX8_troubleOf 98 = .ok (.iinc 3 1, 3) := by decide +kernel
theorem dX8_troubleOf_101 : decode cX8_troubleOf 101 = .ok (.goto (-97), 3) := by decide +kernel
theorem dX8_troubleOf_104 : decode cX8_troubleOf 104 = .ok (.iload_n 2, 1) := by decide +kernel
theorem dX8_troubleOf_105 : decode cX8_troubleOf 105 = .ok (.ireturn, 1) := by decide +kernel
set_option maxRecDepth 20000 in
theorem ggX8_trouble_X8_in : GoodIn wsX8_trouble wsX8_in := goodIn_r _ [5] (by decide +kernel) (by decide +kernel)
set_option maxRecDepth 20000 in
theorem gX8_trouble_X8_in : GoodIn wsX8_trouble (va_wsS RX8 59 yX8_in wsX8_in) := goodIn_app (goodIn_of _ (by decide +kernel)) ggX8_trouble_X8_in
set_option maxRecDepth 20000 in
theorem ggX8_trouble_X8_troubleOf : GoodIn wsX8_trouble wsX8_troubleOf := goodIn_r _ [9, 1, 10, 11, 12, 13, 14, 15, 16, 17, 18, 19, 20, 21, 22, 23, 24, 25, 26, 27, 28, 29, 30, 31, 32, 33, 34, 35, 36, 37, 38] (by decide +kernel) (by decide +kernel)
set_option maxRecDepth 20000 in
theorem gX8_trouble_X8_troubleOf : GoodIn wsX8_trouble (wsV RX8 159 RX8 yX8_troubleOf wsX8_troubleOf) := goodIn_app (goodIn_of _ (by decide +kernel)) ggX8_trouble_X8_troubleOf
theorem dX8_trouble_0 : decode cX8_trouble 0 = .ok (.iload_n 1, 1) := by decide +kernel
theorem dX8_trouble_1 : decode cX8_trouble 1 = .ok (.i2l, 1) := by decide +kernel
theorem dX8_trouble_2 : decode cX8_trouble 2 = .ok (.lconst 0, 1) := by decide +kernel
theorem dX8_trouble_3 : decode cX8_trouble 3 = .ok (.iconst 1, 1) := by decide +kernel
theorem dX8_trouble_4 : decode cX8_trouble 4 = .ok (.aload_n 0, 1) := by decide +kernel
theorem dX8_trouble_5 : decode cX8_trouble 5 = .ok (.getfield 111, 3) := by decide +kernel
theorem dX8_trouble_8 : decode cX8_trouble 8 = .ok (.ishl, 1) := by decide +kernel
theorem dX8_trouble_9 : decode cX8_trouble 9 = .ok (.iconst 1, 1) := by decide +kernel
theorem dX8_trouble_10 : decode cX8_trouble 10 = .ok (.isub, 1) := by decide +kernel
theorem dX8_trouble_11 : decode cX8_trouble 11 = .ok (.i2l, 1) := by decide +kernel
theorem dX8_trouble_12 : decode cX8_trouble 12 = .ok (.invokestatic 59, 3) := by decide +kernel
theorem dX8_trouble_15 : decode cX8_trouble 15 = .ok (.ifCond .eq 11, 3) := by decide +kernel
theorem dX8_trouble_18 : decode cX8_trouble 18 = .ok (.aload_n 0, 1) := by decide +kernel
theorem dX8_trouble_19 : decode cX8_trouble 19 = .ok (.iload_n 1, 1) := by decide +kernel
theorem dX8_trouble_20 : decode cX8_trouble 20 = .ok (.invokevirtual 159, 3) := by decide +kernel
theorem dX8_trouble_23 : decode cX8_trouble 23 = .ok (.goto 5, 3) := by decide +kernel
theorem dX8_trouble_26 : decode cX8_trouble 26 = .ok (.bipush (-2), 2) := by decide +kernel
theorem dX8_trouble_28 : decode cX8_trouble 28 = .ok (.ireturn, 1) := by decide +kernel
theorem dX8_behind_0 : decode cX8_behind 0 = .ok (.iload_n 2, 1) := by decide +kernel
theorem dX8_behind_1 : decode cX8_behind 1 = .ok (.iconst 4, 1) := by decide +kernel
theorem dX8_behind_2 : decode cX8_behind 2 = .ok (.idiv, 1) := by decide +kernel
theorem dX8_behind_3 : decode cX8_behind 3 = .ok (.istore 4, 2) := by decide +kernel
theorem dX8_behind_5 : decode cX8_behind 5 = .ok (.iload_n 2, 1) := by decide +kernel
theorem dX8_behind_6 : decode cX8_behind 6 = .ok (.iconst 4, 1) := by decide +kernel
theorem dX8_behind_7 : decode cX8_behind 7 = .ok (.irem, 1) := by decide +kernel
theorem dX8_behind_8 : decode cX8_behind 8 = .ok (.istore 5, 2) := by decide +kernel
theorem dX8_behind_10 : decode cX8_behind 10 = .ok (.iconst 0, 1) := by decide +kernel
theorem dX8_behind_11 : decode cX8_behind 11 = .ok (.istore 6, 2) := by decide +kernel
theorem dX8_behind_13 : decode cX8_behind 13 = .ok (.iload 6, 2) := by decide +kernel
theorem dX8_behind_15 : decode cX8_behind 15 = .ok (.aload_n 0, 1) := by decide +kernel
theorem dX8_behind_16 : decode cX8_behind 16 = .ok (.getfield 111, 3) := by decide +kernel
theorem dX8_behind_19 : decode cX8_behind 19 = .ok (.if_icmp .ge 64, 3) := by decide +kernel
theorem dX8_behind_22 : decode cX8_behind 22 = .ok (.aload_n 0, 1) := by decide +kernel
theorem dX8_behind_23 : decode cX8_behind 23 = .ok (.getfield 22, 3) := by decide +kernel
theorem dX8_behind_26 : decode cX8_behind 26 = .ok (.iconst 4, 1) := by decide +kernel
theorem dX8_behind_27 : decode cX8_behind 27 = .ok (.iload 6, 2) := by decide +kernel
theorem dX8_behind_29 : decode cX8_behind 29 = .ok (.imul, 1) := by decide +kernel
theorem dX8_behind_30 : decode cX8_behind 30 = .ok (.iaload, 1) := by decide +kernel
theorem dX8_behind_31 : decode cX8_behind 31 = .ok (.iload_n 1, 1) := by decide +kernel
theorem dX8_behind_32 : decode cX8_behind 32 = .ok (.if_icmp .ne 16, 3) := by decide +kernel
theorem dX8_behind_35 : decode cX8_behind 35 = .ok (.iload_n 3, 1) := by decide +kernel
theorem dX8_behind_36 : decode cX8_behind 36 = .ok (.iload 6, 2) := by decide +kernel
theorem dX8_behind_38 : decode cX8_behind 38 = .ok (.ishr, 1) := by decide +kernel
theorem dX8_behind_39 : decode cX8_behind 39 = .ok (.iconst 1, 1) := by decide +kernel
theorem dX8_behind_40 : decode cX8_behind 40 = .ok (.iand, 1) := by decide +kernel
theorem dX8_behind_41 : decode cX8_behind 41 = .ok (.ifCond .ne 7, 3) := by decide +kernel
theorem dX8_behind_44 : decode cX8_behind 44 = .ok (.iconst 1, 1) := by decide +kernel
theorem dX8_behind_45 : decode cX8_behind 45 = .ok (.goto 4, 3) := by decide +kernel
theorem dX8_behind_48 : decode cX8_behind 48 = .ok (.iconst 0, 1) := by decide +kernel
theorem dX8_behind_49 : decode cX8_behind 49 = .ok (.istore 7, 2) := by decide +kernel
theorem dX8_behind_51 : decode cX8_behind 51 = .ok (.iload 4, 2) := by decide +kernel
theorem dX8_behind_53 : decode cX8_behind 53 = .ok (.iload 7, 2) := by decide +kernel
theorem dX8_behind_55 : decode cX8_behind 55 = .ok (.ifCond .eq 18, 3) := by decide +kernel
theorem dX8_behind_58 : decode cX8_behind 58 = .ok (.iload 4, 2) := by decide +kernel
theorem dX8_behind_60 : decode cX8_behind 60 = .ok (.aload_n 0, 1) := by decide +kernel
theorem dX8_behind_61 : decode cX8_behind 61 = .ok (.getfield 19, 3) := by decide +kernel
theorem dX8_behind_64 : decode cX8_behind 64 = .ok (.iload_n 1, 1) := by decide +kernel
theorem dX8_behind_65 : decode cX8_behind 65 = .ok (.iaload, 1) := by decide +kernel
theorem dX8_behind_66 : decode cX8_behind 66 = .ok (.if_icmp .ge 7, 3) := by decide +kernel
theorem dX8_behind_69 : decode cX8_behind 69 = .ok (.iconst 1, 1) := by decide +kernel
theorem dX8_behind_70 : decode cX8_behind 70 = .ok (.goto 4, 3) := by decide +kernel
theorem dX8_behind_73 : decode cX8_behind 73 = .ok (.iconst 0, 1) := by decide +kernel
theorem dX8_behind_74 : decode cX8_behind 74 = .ok (.iadd, 1) := by decide +kernel
theorem dX8_behind_75 : decode cX8_behind 75 = .ok (.istore 4, 2) := by decide +kernel
theorem dX8_behind_77 : decode cX8_behind 77 = .ok (.iinc 6 1, 3) := by decide +kernel
theorem dX8_behind_80 : decode cX8_behind 80 = .ok (.goto (-67), 3) := by decide +kernel
theorem dX8_behind_83 : decode cX8_behind 83 = .ok (.iconst 0, 1) := by decide +kernel
theorem dX8_behind_84 : decode cX8_behind 84 = .ok (.istore 6, 2) := by decide +kernel
theorem dX8_behind_86 : decode cX8_behind 86 = .ok (.iload 6, 2) := by decide +kernel
theorem dX8_behind_88 : decode cX8_behind 88 = .ok (.aload_n 0, 1) := by decide +kernel
theorem dX8_behind_89 : decode cX8_behind 89 = .ok (.getfield 111, 3) := by decide +kernel
theorem dX8_behind_92 : decode cX8_behind 92 = .ok (.if_icmp .ge 70, 3) := by decide +kernel
theorem dX8_behind_95 : decode cX8_behind 95 = .ok (.aload_n 0, 1) := by decide +kernel
theorem dX8_behind_96 : decode cX8_behind 96 = .ok (.getfield 22, 3) := by decide +kernel
theorem dX8_behind_99 : decode cX8_behind 99 = .ok (.iconst 4, 1) := by decide +kernel
theorem dX8_behind_100 : decode cX8_behind 100 = .ok (.iload 6, 2) := by decide +kernel
theorem dX8_behind_102 : decode cX8_behind 102 = .ok (.imul, 1) := by decide +kernel
theorem dX8_behind_103 : decode cX8_behind 103 = .ok (.iaload, 1) := by decide +kernel
theorem dX8_behind_104 : decode cX8_behind 104 = .ok (.iload_n 1, 1) := by decide +kernel
theorem dX8_behind_105 : decode cX8_behind 105 = .ok (.if_icmp .ne 51, 3) := by decide +kernel
theorem dX8_behind_108 : decode cX8_behind 108 = .ok (.iload_n 3, 1) := by decide +kernel
theorem dX8_behind_109 : decode cX8_behind 109 = .ok (.iload 6, 2) := by decide +kernel
theorem dX8_behind_111 : decode cX8_behind 111 = .ok (.ishr, 1) := by decide +kernel
theorem dX8_behind_112 : decode cX8_behind 112 = .ok (.iconst 1, 1) := by decide +kernel
theorem dX8_behind_113 : decode cX8_behind 113 = .ok (.iand, 1) := by decide +kernel
theorem dX8_behind_114 : decode cX8_behind 114 = .ok (.iconst 1, 1) := by decide +kernel
theorem dX8_behind_115 : decode cX8_behind 115 = .ok (.if_icmp .ne 41, 3) := by decide +kernel
theorem dX8_behind_118 : decode cX8_behind 118 = .ok (.iinc 5 1, 3) := by decide +kernel
theorem dX8_behind_121 : decode cX8_behind 121 = .ok (.iload 4, 2) := by decide +kernel
theorem dX8_behind_123 : decode cX8_behind 123 = .ok (.iload 5, 2) := by decide +kernel
theorem dX8_behind_125 : decode cX8_behind 125 = .ok (.iconst 4, 1) := by decide +kernel
theorem dX8_behind_126 : decode cX8_behind 126 = .ok (.if_icmp .ne 12, 3) := by decide +kernel
theorem dX8_behind_129 : decode cX8_behind 129 = .ok (.iload 4, 2) := by decide +kernel
theorem dX8_behind_131 : decode cX8_behind 131 = .ok (.ifCond .le 7, 3) := by decide +kernel
theorem dX8_behind_134 : decode cX8_behind 134 = .ok (.iconst 1, 1) := by decide +kernel
theorem dX8_behind_135 : decode cX8_behind 135 = .ok (.goto 4, 3) := by decide +kernel
theorem dX8_behind_138 : decode cX8_behind 138 = .ok (.iconst 0, 1) := by decide +kernel
theorem dX8_behind_139 : decode cX8_behind 139 = .ok (.isub, 1) := by decide +kernel
theorem dX8_behind_140 : decode cX8_behind 140 = .ok (.istore 4, 2) := by decide +kernel
theorem dX8_behind_142 : decode cX8_behind 142 = .ok (.iload 5, 2) := by decide +kernel
theorem dX8_behind_144 : decode cX8_behind 144 = .ok (.iconst 4, 1) := by decide +kernel
theorem dX8_behind_145 : decode cX8_behind 145 = .ok (.if_icmp .ne 7, 3) := by decide +kernel
theorem dX8_behind_148 : decode cX8_behind 148 = .ok (.iconst 0, 1) := by decide +kernel
theorem dX8_behind_149 : decode cX8_behind 149 = .ok (.goto 5, 3) := by decide +kernel
theorem dX8_behind_152 : decode cX8_behind 152 = .ok (.iload 5, 2) := by decide +kernel
theorem dX8_behind_154 : decode cX8_behind 154 = .ok (.istore 5, 2) := by decide +kernel
theorem dX8_behind_156 : decode cX8_behind 156 = .ok (.iinc 6 1, 3) := by decide +kernel
theorem dX8_behind_159 : decode cX8_behind 159 = .ok (.goto (-73), 3) := by decide +kernel
theorem dX8_behind_162 : decode cX8_behind 162 = .ok (.iconst 4, 1) := by decide +kernel
theorem dX8_behind_163 : decode cX8_behind 163 = .ok (.iload 4, 2) := by decide +kernel
theorem dX8_behind_165 : decode cX8_behind 165 = .ok (.imul, 1) := by decide +kernel
theorem dX8_behind_166 : decode cX8_behind 166 = .ok (.iload 5, 2) := by decide +kernel
theorem dX8_behind_168 : decode cX8_behind 168 = .ok (.iadd, 1) := by decide +kernel
theorem dX8_behind_169 : decode cX8_behind 169 = .ok (.ireturn, 1) := by decide +kernel
set_option maxRecDepth 20000 in
theorem ggX8_layLeast_X8_troubleOf : GoodIn wsX8_layLeast wsX8_troubleOf := goodIn_r _ [9, 4, 10, 11, 16, 17, 18, 19, 20, 21, 22, 23, 24, 25, 26, 27, 28, 29, 30, 31, 32, 33, 34, 35, 36, 37, 38, 39, 40, 41, 42] (by decide +kernel) (by decide +kernel)
set_option maxRecDepth 20000 in
theorem gX8_layLeast_X8_troubleOf : GoodIn wsX8_layLeast (wsV RX8 159 RX8 yX8_troubleOf wsX8_troubleOf) := goodIn_app (goodIn_of _ (by decide +kernel)) ggX8_layLeast_X8_troubleOf
set_option maxRecDepth 20000 in
theorem ggX8_layLeast_X8_behind : GoodIn wsX8_layLeast wsX8_behind := goodIn_r _ [15, 4, 10, 2, 16, 17, 18, 19, 20, 21, 22, 23, 24, 25, 26, 27, 28, 29, 30, 31, 32, 33, 34, 35, 36, 37, 38, 39, 40, 41, 42] (by decide +kernel) (by decide +kernel)
set_option maxRecDepth 20000 in
theorem gX8_layLeast_X8_behind : GoodIn wsX8_layLeast (wsV RX8 163 RX8 yX8_behind wsX8_behind) := goodIn_app (goodIn_of _ (by decide +kernel)) ggX8_layLeast_X8_behind
theorem dX8_layLeast_0 : decode cX8_layLeast 0 = .ok (.iconst 0, 1) := by decide +kernel
theorem dX8_layLeast_1 : decode cX8_layLeast 1 = .ok (.istore_n 3, 1) := by decide +kernel
theorem dX8_layLeast_2 : decode cX8_layLeast 2 = .ok (.iload_n 3, 1) := by decide +kernel
theorem dX8_layLeast_3 : decode cX8_layLeast 3 = .ok (.bipush 124, 2) := by decide +kernel
theorem dX8_layLeast_5 : decode cX8_layLeast 5 = .ok (.if_icmp .ge 38, 3) := by decide +kernel
theorem dX8_layLeast_8 : decode cX8_layLeast 8 = .ok (.aload_n 0, 1) := by decide +kernel
theorem dX8_layLeast_9 : decode cX8_layLeast 9 = .ok (.getfield 37, 3) := by decide +kernel
theorem dX8_layLeast_12 : decode cX8_layLeast 12 = .ok (.bipush 124, 2) := by decide +kernel
theorem dX8_layLeast_14 : decode cX8_layLeast 14 = .ok (.iload_n 2, 1) := by decide +kernel
theorem dX8_layLeast_15 : decode cX8_layLeast 15 = .ok (.imul, 1) := by decide +kernel
theorem dX8_layLeast_16 : decode cX8_layLeast 16 = .ok (.iload_n 3, 1) := by decide +kernel
theorem dX8_layLeast_17 : decode cX8_layLeast 17 = .ok (.iadd, 1) := by decide +kernel
theorem dX8_layLeast_18 : decode cX8_layLeast 18 = .ok (.iload_n 3, 1) := by decide +kernel
theorem dX8_layLeast_19 : decode cX8_layLeast 19 = .ok (.iconst 4, 1) := by decide +kernel
theorem dX8_layLeast_20 : decode cX8_layLeast 20 = .ok (.idiv, 1) := by decide +kernel
theorem dX8_layLeast_21 : decode cX8_layLeast 21 = .ok (.aload_n 0, 1) := by decide +kernel
theorem dX8_layLeast_22 : decode cX8_layLeast 22 = .ok (.getfield 19, 3) := by decide +kernel
theorem dX8_layLeast_25 : decode cX8_layLeast 25 = .ok (.iload_n 1, 1) := by decide +kernel
theorem dX8_layLeast_26 : decode cX8_layLeast 26 = .ok (.iaload, 1) := by decide +kernel
theorem dX8_layLeast_27 : decode cX8_layLeast 27 = .ok (.if_icmp .ne 7, 3) := by decide +kernel
theorem dX8_layLeast_30 : decode cX8_layLeast 30 = .ok (.iconst 0, 1) := by decide +kernel
theorem dX8_layLeast_31 : decode cX8_layLeast 31 = .ok (.goto 5, 3) := by decide +kernel
theorem dX8_layLeast_34 : decode cX8_layLeast 34 = .ok (.ldc 162, 2) := by decide +kernel
theorem dX8_layLeast_36 : decode cX8_layLeast 36 = .ok (.iastore, 1) := by decide +kernel
theorem dX8_layLeast_37 : decode cX8_layLeast 37 = .ok (.iinc 3 1, 3) := by decide +kernel
theorem dX8_layLeast_40 : decode cX8_layLeast 40 = .ok (.goto (-38), 3) := by decide +kernel
theorem dX8_layLeast_43 : decode cX8_layLeast 43 = .ok (.iload_n 2, 1) := by decide +kernel
theorem dX8_layLeast_44 : decode cX8_layLeast 44 = .ok (.iconst 1, 1) := by decide +kernel
theorem dX8_layLeast_45 : decode cX8_layLeast 45 = .ok (.isub, 1) := by decide +kernel
theorem dX8_layLeast_46 : decode cX8_layLeast 46 = .ok (.istore_n 3, 1) := by decide +kernel
theorem dX8_layLeast_47 : decode cX8_layLeast 47 = .ok (.iload_n 3, 1) := by decide +kernel
theorem dX8_layLeast_48 : decode cX8_layLeast 48 = .ok (.ifCond .lt 122, 3) := by decide +kernel
theorem dX8_layLeast_51 : decode cX8_layLeast 51 = .ok (.iconst 0, 1) := by decide +kernel
theorem dX8_layLeast_52 : decode cX8_layLeast 52 = .ok (.istore 4, 2) := by decide +kernel
theorem dX8_layLeast_54 : decode cX8_layLeast 54 = .ok (.iload 4, 2) := by decide +kernel
theorem dX8_layLeast_56 : decode cX8_layLeast 56 = .ok (.bipush 124, 2) := by decide +kernel
theorem dX8_layLeast_58 : decode cX8_layLeast 58 = .ok (.if_icmp .ge 106, 3) := by decide +kernel
theorem dX8_layLeast_61 : decode cX8_layLeast 61 = .ok (.ldc 162, 2) := by decide +kernel
theorem dX8_layLeast_63 : decode cX8_layLeast 63 = .ok (.istore 5, 2) := by decide +kernel
theorem dX8_layLeast_65 : decode cX8_layLeast 65 = .ok (.iconst 0, 1) := by decide +kernel
theorem dX8_layLeast_66 : decode cX8_layLeast 66 = .ok (.istore 6, 2) := by decide +kernel
theorem dX8_layLeast_68 : decode cX8_layLeast 68 = .ok (.iload 6, 2) := by decide +kernel
theorem dX8_layLeast_70 : decode cX8_layLeast 70 = .ok (.iconst 1, 1) := by decide +kernel
theorem dX8_layLeast_71 : decode cX8_layLeast 71 = .ok (.aload_n 0, 1) := by decide +kernel
theorem dX8_layLeast_72 : decode cX8_layLeast 72 = .ok (.getfield 111, 3) := by decide +kernel
theorem dX8_layLeast_75 : decode cX8_layLeast 75 = .ok (.ishl, 1) := by decide +kernel
theorem dX8_layLeast_76 : decode cX8_layLeast 76 = .ok (.if_icmp .ge 68, 3) := by decide +kernel
theorem dX8_layLeast_79 : decode cX8_layLeast 79 = .ok (.iload 4, 2) := by decide +kernel
theorem dX8_layLeast_81 : decode cX8_layLeast 81 = .ok (.iconst 4, 1) := by decide +kernel
theorem dX8_layLeast_82 : decode cX8_layLeast 82 = .ok (.idiv, 1) := by decide +kernel
theorem dX8_layLeast_83 : decode cX8_layLeast 83 = .ok (.aload_n 0, 1) := by decide +kernel
theorem dX8_layLeast_84 : decode cX8_layLeast 84 = .ok (.getfield 19, 3) := by decide +kernel
theorem dX8_layLeast_87 : decode cX8_layLeast 87 = .ok (.iload_n 1, 1) := by decide +kernel
theorem dX8_layLeast_88 : decode cX8_layLeast 88 = .ok (.iaload, 1) := by decide +kernel
theorem dX8_layLeast_89 : decode cX8_layLeast 89 = .ok (.if_icmp .gt 55, 3) := by decide +kernel
theorem dX8_layLeast_92 : decode cX8_layLeast 92 = .ok (.aload_n 0, 1) := by decide +kernel
theorem dX8_layLeast_93 : decode cX8_layLeast 93 = .ok (.iload 6, 2) := by decide +kernel
theorem dX8_layLeast_95 : decode cX8_layLeast 95 = .ok (.invokevirtual 159, 3) := by decide +kernel
theorem dX8_layLeast_98 : decode cX8_layLeast 98 = .ok (.aload_n 0, 1) := by decide +kernel
theorem dX8_layLeast_99 : decode cX8_layLeast 99 = .ok (.getfield 37, 3) := by decide +kernel
theorem dX8_layLeast_102 : decode cX8_layLeast 102 = .ok (.bipush 124, 2) := by decide +kernel
theorem dX8_layLeast_104 : decode cX8_layLeast 104 = .ok (.iload_n 3, 1) := by decide +kernel
theorem dX8_layLeast_105 : decode cX8_layLeast 105 = .ok (.iconst 1, 1) := by decide +kernel
theorem dX8_layLeast_106 : decode cX8_layLeast 106 = .ok (.iadd, 1) := by decide +kernel
theorem dX8_layLeast_107 : decode cX8_layLeast 107 = .ok (.imul, 1) := by decide +kernel
theorem dX8_layLeast_108 : decode cX8_layLeast 108 = .ok (.aload_n 0, 1) := by decide +kernel
theorem dX8_layLeast_109 : decode cX8_layLeast 109 = .ok (.iload_n 1, 1) := by decide +kernel
theorem dX8_layLeast_110 : decode cX8_layLeast 110 = .ok (.iload 4, 2) := by decide +kernel
theorem dX8_layLeast_112 : decode cX8_layLeast 112 = .ok (.iload 6, 2) := by decide +kernel
theorem dX8_layLeast_114 : decode cX8_layLeast 114 = .ok (.invokevirtual 163, 3) := by decide +kernel
theorem dX8_layLeast_117 : decode cX8_layLeast 117 = .ok (.iadd, 1) := by decide +kernel
theorem dX8_layLeast_118 : decode cX8_layLeast 118 = .ok (.iaload, 1) := by decide +kernel
theorem dX8_layLeast_119 : decode cX8_layLeast 119 = .ok (.iadd, 1) := by decide +kernel
theorem dX8_layLeast_120 : decode cX8_layLeast 120 = .ok (.istore 7, 2) := by decide +kernel
theorem dX8_layLeast_122 : decode cX8_layLeast 122 = .ok (.iload 7, 2) := by decide +kernel
theorem dX8_layLeast_124 : decode cX8_layLeast 124 = .ok (.iload 5, 2) := by decide +kernel
theorem dX8_layLeast_126 : decode cX8_layLeast 126 = .ok (.if_icmp .ge 8, 3) := by decide +kernel
theorem dX8_layLeast_129 : decode cX8_layLeast 129 = .ok (.iload 7, 2) := by decide +kernel
theorem dX8_layLeast_131 : decode cX8_layLeast 131 = .ok (.goto 5, 3) := by decide +kernel
theorem dX8_layLeast_134 : decode cX8_layLeast 134 = .ok (.iload 5, 2) := by decide +kernel
theorem dX8_layLeast_136 : decode cX8_layLeast 136 = .ok (.istore 5, 2) := by decide +kernel
theorem dX8_layLeast_138 : decode cX8_layLeast 138 = .ok (.iinc 6 1, 3) := by decide +kernel
theorem dX8_layLeast_141 : decode cX8_layLeast 141 = .ok (.goto (-73), 3) := by decide +kernel
theorem dX8_layLeast_144 : decode cX8_layLeast 144 = .ok (.aload_n 0, 1) := by decide +kernel
theorem dX8_layLeast_145 : decode cX8_layLeast 145 = .ok (.getfield 37, 3) := by decide +kernel
theorem dX8_layLeast_148 : decode cX8_layLeast 148 = .ok (.bipush 124, 2) := by decide +kernel
theorem dX8_layLeast_150 : decode cX8_layLeast 150 = .ok (.iload_n 3, 1) := by decide +kernel
theorem dX8_layLeast_151 : decode cX8_layLeast 151 = .ok (.imul, 1) := by decide +kernel
theorem dX8_layLeast_152 : decode cX8_layLeast 152 = .ok (.iload 4, 2) := by decide +kernel
theorem dX8_layLeast_154 : decode cX8_layLeast 154 = .ok (.iadd, 1) := by decide +kernel
theorem dX8_layLeast_155 : decode cX8_layLeast 155 = .ok (.iload 5, 2) := by decide +kernel
theorem dX8_layLeast_157 : decode cX8_layLeast 157 = .ok (.iastore, 1) := by decide +kernel
theorem dX8_layLeast_158 : decode cX8_layLeast 158 = .ok (.iinc 4 1, 3) := by decide +kernel
theorem dX8_layLeast_161 : decode cX8_layLeast 161 = .ok (.goto (-107), 3) := by decide +kernel
theorem dX8_layLeast_164 : decode cX8_layLeast 164 = .ok (.iinc 3 (-1), 3) := by decide +kernel
theorem dX8_layLeast_167 : decode cX8_layLeast 167 = .ok (.goto (-120), 3) := by decide +kernel
theorem dX8_layLeast_170 : decode cX8_layLeast 170 = .ok (.return_, 1) := by decide +kernel
set_option maxRecDepth 20000 in
theorem ggX8_invite_X8_isRoom : GoodIn wsX8_invite wsX8_isRoom := goodIn_r _ [9, 10, 11, 12, 8, 13, 31, 32, 33, 34, 35, 36, 37, 38, 39, 40, 41, 42, 43, 44, 45, 46, 47, 48, 49, 50, 51, 52, 53, 54, 55, 56, 57] (by decide +kernel) (by decide +kernel)
set_option maxRecDepth 20000 in
theorem gX8_invite_X8_isRoom : GoodIn wsX8_invite (wsV RX8 120 RX8 yX8_isRoom wsX8_isRoom) := goodIn_app (goodIn_of _ (by decide +kernel)) ggX8_invite_X8_isRoom
set_option maxRecDepth 20000 in
theorem ggX8_invite_X8_in : GoodIn wsX8_invite wsX8_in := goodIn_r _ [13] (by decide +kernel) (by decide +kernel)
set_option maxRecDepth 20000 in
theorem gX8_invite_X8_in : GoodIn wsX8_invite (va_wsS RX8 59 yX8_in wsX8_in) := goodIn_app (goodIn_of _ (by decide +kernel)) ggX8_invite_X8_in
set_option maxRecDepth 20000 in
theorem ggX8_invite_X8_layLeast : GoodIn wsX8_invite wsX8_layLeast := goodIn_r _ [17, 2, 18, 19, 20, 21, 22, 23, 8, 24, 25, 26, 27, 28, 29, 30, 31, 32, 33, 34, 35, 36, 37, 38, 39, 40, 41, 42, 43, 44, 45, 46, 47, 48, 49, 50, 51, 52, 53, 54, 55, 56, 57] (by decide +kernel) (by decide +kernel)
set_option maxRecDepth 20000 in
theorem gX8_invite_X8_layLeast : GoodIn wsX8_invite (wsV RX8 168 RX8 yX8_layLeast wsX8_layLeast) := goodIn_app (goodIn_of _ (by decide +kernel)) ggX8_invite_X8_layLeast
theorem dX8_invite_0 : decode cX8_invite 0 = .ok (.aload_n 0, 1) := by decide +kernel
theorem dX8_invite_1 : decode cX8_invite 1 = .ok (.iload_n 1, 1) := by decide +kernel
theorem dX8_invite_2 : decode cX8_invite 2 = .ok (.invokevirtual 120, 3) := by decide +kernel
theorem dX8_invite_5 : decode cX8_invite 5 = .ok (.ifCond .ne 5, 3) := by decide +kernel
theorem dX8_invite_8 : decode cX8_invite 8 = .ok (.iconst (-1), 1) := by decide +kernel
theorem dX8_invite_9 : decode cX8_invite 9 = .ok (.ireturn, 1) := by decide +kernel
theorem dX8_invite_10 : decode cX8_invite 10 = .ok (.iload_n 2, 1) := by decide +kernel
theorem dX8_invite_11 : decode cX8_invite 11 = .ok (.i2l, 1) := by decide +kernel
theorem dX8_invite_12 : decode cX8_invite 12 = .ok (.lconst 1, 1) := by decide +kernel
theorem dX8_invite_13 : decode cX8_invite 13 = .ok (.ldc2_w 166, 3) := by decide +kernel
theorem dX8_invite_16 : decode cX8_invite 16 = .ok (.invokestatic 59, 3) := by decide +kernel
theorem dX8_invite_19 : decode cX8_invite 19 = .ok (.ifCond .ne 6, 3) := by decide +kernel
theorem dX8_invite_22 : decode cX8_invite 22 = .ok (.bipush (-2), 2) := by decide +kernel
theorem dX8_invite_24 : decode cX8_invite 24 = .ok (.ireturn, 1) := by decide +kernel
theorem dX8_invite_25 : decode cX8_invite 25 = .ok (.aload_n 0, 1) := by decide +kernel
theorem dX8_invite_26 : decode cX8_invite 26 = .ok (.iload_n 1, 1) := by decide +kernel
theorem dX8_invite_27 : decode cX8_invite 27 = .ok (.iload_n 2, 1) := by decide +kernel
theorem dX8_invite_28 : decode cX8_invite 28 = .ok (.invokevirtual 168, 3) := by decide +kernel
theorem dX8_invite_31 : decode cX8_invite 31 = .ok (.aload_n 0, 1) := by decide +kernel
theorem dX8_invite_32 : decode cX8_invite 32 = .ok (.getfield 37, 3) := by decide +kernel
theorem dX8_invite_35 : decode cX8_invite 35 = .ok (.iconst 4, 1) := by decide +kernel
theorem dX8_invite_36 : decode cX8_invite 36 = .ok (.aload_n 0, 1) := by decide +kernel
theorem dX8_invite_37 : decode cX8_invite 37 = .ok (.getfield 31, 3) := by decide +kernel
theorem dX8_invite_40 : decode cX8_invite 40 = .ok (.bipush 90, 2) := by decide +kernel
theorem dX8_invite_42 : decode cX8_invite 42 = .ok (.iload_n 1, 1) := by decide +kernel
theorem dX8_invite_43 : decode cX8_invite 43 = .ok (.iadd, 1) := by decide +kernel
theorem dX8_invite_44 : decode cX8_invite 44 = .ok (.iaload, 1) := by decide +kernel
theorem dX8_invite_45 : decode cX8_invite 45 = .ok (.imul, 1) := by decide +kernel
theorem dX8_invite_46 : decode cX8_invite 46 = .ok (.aload_n 0, 1) := by decide +kernel
theorem dX8_invite_47 : decode cX8_invite 47 = .ok (.getfield 31, 3) := by decide +kernel
theorem dX8_invite_50 : decode cX8_invite 50 = .ok (.bipush 93, 2) := by decide +kernel
theorem dX8_invite_52 : decode cX8_invite 52 = .ok (.iload_n 1, 1) := by decide +kernel
theorem dX8_invite_53 : decode cX8_invite 53 = .ok (.iadd, 1) := by decide +kernel
theorem dX8_invite_54 : decode cX8_invite 54 = .ok (.iaload, 1) := by decide +kernel
theorem dX8_invite_55 : decode cX8_invite 55 = .ok (.iadd, 1) := by decide +kernel
theorem dX8_invite_56 : decode cX8_invite 56 = .ok (.iaload, 1) := by decide +kernel
theorem dX8_invite_57 : decode cX8_invite 57 = .ok (.istore_n 3, 1) := by decide +kernel
theorem dX8_invite_58 : decode cX8_invite 58 = .ok (.iload_n 3, 1) := by decide +kernel
theorem dX8_invite_59 : decode cX8_invite 59 = .ok (.ldc 171, 2) := by decide +kernel
theorem dX8_invite_61 : decode cX8_invite 61 = .ok (.if_icmp .le 8, 3) := by decide +kernel
theorem dX8_invite_64 : decode cX8_invite 64 = .ok (.bipush (-9), 2) := by decide +kernel
theorem dX8_invite_66 : decode cX8_invite 66 = .ok (.goto 4, 3) := by decide +kernel
theorem dX8_invite_69 : decode cX8_invite 69 = .ok (.iload_n 3, 1) := by decide +kernel
theorem dX8_invite_70 : decode cX8_invite 70 = .ok (.ireturn, 1) := by decide +kernel
set_option maxRecDepth 20000 in
theorem ggX8_inviteAt_X8_invite : GoodIn wsX8_inviteAt wsX8_invite := goodIn_r _ [7, 8, 2, 1, 9, 10, 11, 12, 6, 13, 14, 15, 16, 17, 18, 19, 20, 21, 22, 23, 24, 25, 26, 27, 28, 29, 30, 31, 32, 33, 34, 35, 36, 37, 38, 39, 40, 41, 42, 43, 44, 45, 46, 47, 48, 49, 50, 51, 52, 53, 54, 55, 56, 57, 58, 59, 60, 61] (by decide +kernel) (by decide +kernel)
set_option maxRecDepth 20000 in
theorem gX8_inviteAt_X8_invite : GoodIn wsX8_inviteAt (wsV RX8 172 RX8 yX8_invite wsX8_invite) := goodIn_app (goodIn_of _ (by decide +kernel)) ggX8_inviteAt_X8_invite
set_option maxRecDepth 20000 in
theorem ggX8_inviteAt_X8_in : GoodIn wsX8_inviteAt wsX8_in := goodIn_r _ [17] (by decide +kernel) (by decide +kernel)
set_option maxRecDepth 20000 in
theorem gX8_inviteAt_X8_in : GoodIn wsX8_inviteAt (va_wsS RX8 59 yX8_in wsX8_in) := goodIn_app (goodIn_of _ (by decide +kernel)) ggX8_inviteAt_X8_in
set_option maxRecDepth 20000 in
theorem ggX8_inviteAt_X8_troubleOf : GoodIn wsX8_inviteAt wsX8_troubleOf := goodIn_r _ [28, 24, 29, 30, 35, 36, 37, 38, 39, 40, 41, 42, 43, 44, 45, 46, 47, 48, 49, 50, 51, 52, 53, 54, 55, 56, 57, 58, 59, 60, 61] (by decide +kernel) (by decide +kernel)
set_option maxRecDepth 20000 in
theorem gX8_inviteAt_X8_troubleOf : GoodIn wsX8_inviteAt (wsV RX8 159 RX8 yX8_troubleOf wsX8_troubleOf) := goodIn_app (goodIn_of _ (by decide +kernel)) ggX8_inviteAt_X8_troubleOf
set_option maxRecDepth 20000 in
theorem ggX8_inviteAt_X8_behind : GoodIn wsX8_inviteAt wsX8_behind := goodIn_r _ [34, 24, 29, 22, 35, 36, 37, 38, 39, 40, 41, 42, 43, 44, 45, 46, 47, 48, 49, 50, 51, 52, 53, 54, 55, 56, 57, 58, 59, 60, 61] (by decide +kernel) (by decide +kernel)
set_option maxRecDepth 20000 in
theorem gX8_inviteAt_X8_behind : GoodIn wsX8_inviteAt (wsV RX8 163 RX8 yX8_behind wsX8_behind) := goodIn_app (goodIn_of _ (by decide +kernel)) ggX8_inviteAt_X8_behind
theorem dX8_inviteAt_0 : decode cX8_inviteAt 0 = .ok (.aload_n 0, 1) := by decide +kernel
theorem dX8_inviteAt_1 : decode cX8_inviteAt 1 = .ok (.iload_n 1, 1) := by decide +kernel
theorem dX8_inviteAt_2 : decode cX8_inviteAt 2 = .ok (.iload_n 2, 1) := by decide +kernel
theorem dX8_inviteAt_3 : decode cX8_inviteAt 3 = .ok (.invokevirtual 172, 3) := by decide +kernel
theorem dX8_inviteAt_6 : decode cX8_inviteAt 6 = .ok (.istore 4, 2) := by decide +kernel
theorem dX8_inviteAt_8 : decode cX8_inviteAt 8 = .ok (.iload 4, 2) := by decide +kernel
theorem dX8_inviteAt_10 : decode cX8_inviteAt 10 = .ok (.ifCond .lt 16, 3) := by decide +kernel
theorem dX8_inviteAt_13 : decode cX8_inviteAt 13 = .ok (.iload_n 3, 1) := by decide +kernel
theorem dX8_inviteAt_14 : decode cX8_inviteAt 14 = .ok (.i2l, 1) := by decide +kernel
theorem dX8_inviteAt_15 : decode cX8_inviteAt 15 = .ok (.lconst 0, 1) := by decide +kernel
theorem dX8_inviteAt_16 : decode cX8_inviteAt 16 = .ok (.iload_n 2, 1) := by decide +kernel
theorem dX8_inviteAt_17 : decode cX8_inviteAt 17 = .ok (.iconst 1, 1) := by decide +kernel
theorem dX8_inviteAt_18 : decode cX8_inviteAt 18 = .ok (.isub, 1) := by decide +kernel
theorem dX8_inviteAt_19 : decode cX8_inviteAt 19 = .ok (.i2l, 1) := by decide +kernel
theorem dX8_inviteAt_20 : decode cX8_inviteAt 20 = .ok (.invokestatic 59, 3) := by decide +kernel
theorem dX8_inviteAt_23 : decode cX8_inviteAt 23 = .ok (.ifCond .ne 16, 3) := by decide +kernel
theorem dX8_inviteAt_26 : decode cX8_inviteAt 26 = .ok (.iload 4, 2) := by decide +kernel
theorem dX8_inviteAt_28 : decode cX8_inviteAt 28 = .ok (.ifCond .ge 8, 3) := by decide +kernel
theorem dX8_inviteAt_31 : decode cX8_inviteAt 31 = .ok (.iload 4, 2) := by decide +kernel
theorem dX8_inviteAt_33 : decode cX8_inviteAt 33 = .ok (.goto 5, 3) := by decide +kernel
theorem dX8_inviteAt_36 : decode cX8_inviteAt 36 = .ok (.bipush (-9), 2) := by decide +kernel
theorem dX8_inviteAt_38 : decode cX8_inviteAt 38 = .ok (.ireturn, 1) := by decide +kernel
theorem dX8_inviteAt_39 : decode cX8_inviteAt 39 = .ok (.iconst 4, 1) := by decide +kernel
theorem dX8_inviteAt_40 : decode cX8_inviteAt 40 = .ok (.aload_n 0, 1) := by decide +kernel
theorem dX8_inviteAt_41 : decode cX8_inviteAt 41 = .ok (.getfield 31, 3) := by decide +kernel
theorem dX8_inviteAt_44 : decode cX8_inviteAt 44 = .ok (.bipush 90, 2) := by decide +kernel
theorem dX8_inviteAt_46 : decode cX8_inviteAt 46 = .ok (.iload_n 1, 1) := by decide +kernel
theorem dX8_inviteAt_47 : decode cX8_inviteAt 47 = .ok (.iadd, 1) := by decide +kernel
theorem dX8_inviteAt_48 : decode cX8_inviteAt 48 = .ok (.iaload, 1) := by decide +kernel
theorem dX8_inviteAt_49 : decode cX8_inviteAt 49 = .ok (.imul, 1) := by decide +kernel
theorem dX8_inviteAt_50 : decode cX8_inviteAt 50 = .ok (.aload_n 0, 1) := by decide +kernel
theorem dX8_inviteAt_51 : decode cX8_inviteAt 51 = .ok (.getfield 31, 3) := by decide +kernel
theorem dX8_inviteAt_54 : decode cX8_inviteAt 54 = .ok (.bipush 93, 2) := by decide +kernel
theorem dX8_inviteAt_56 : decode cX8_inviteAt 56 = .ok (.iload_n 1, 1) := by decide +kernel
theorem dX8_inviteAt_57 : decode cX8_inviteAt 57 = .ok (.iadd, 1) := by decide +kernel
theorem dX8_inviteAt_58 : decode cX8_inviteAt 58 = .ok (.iaload, 1) := by decide +kernel
theorem dX8_inviteAt_59 : decode cX8_inviteAt 59 = .ok (.iadd, 1) := by decide +kernel
theorem dX8_inviteAt_60 : decode cX8_inviteAt 60 = .ok (.istore 5, 2) := by decide +kernel
theorem dX8_inviteAt_62 : decode cX8_inviteAt 62 = .ok (.iconst 0, 1) := by decide +kernel
theorem dX8_inviteAt_63 : decode cX8_inviteAt 63 = .ok (.istore 6, 2) := by decide +kernel
theorem dX8_inviteAt_65 : decode cX8_inviteAt 65 = .ok (.iconst 0, 1) := by decide +kernel
theorem dX8_inviteAt_66 : decode cX8_inviteAt 66 = .ok (.istore 7, 2) := by decide +kernel
theorem dX8_inviteAt_68 : decode cX8_inviteAt 68 = .ok (.iload 7, 2) := by decide +kernel
theorem dX8_inviteAt_70 : decode cX8_inviteAt 70 = .ok (.iload_n 3, 1) := by decide +kernel
theorem dX8_inviteAt_71 : decode cX8_inviteAt 71 = .ok (.if_icmp .gt 74, 3) := by decide +kernel
theorem dX8_inviteAt_74 : decode cX8_inviteAt 74 = .ok (.iconst 0, 1) := by decide +kernel
theorem dX8_inviteAt_75 : decode cX8_inviteAt 75 = .ok (.istore 6, 2) := by decide +kernel
theorem dX8_inviteAt_77 : decode cX8_inviteAt 77 = .ok (.aload_n 0, 1) := by decide +kernel
theorem dX8_inviteAt_78 : decode cX8_inviteAt 78 = .ok (.iload 6, 2) := by decide +kernel
theorem dX8_inviteAt_80 : decode cX8_inviteAt 80 = .ok (.invokevirtual 159, 3) := by decide +kernel
theorem dX8_inviteAt_83 : decode cX8_inviteAt 83 = .ok (.aload_n 0, 1) := by decide +kernel
theorem dX8_inviteAt_84 : decode cX8_inviteAt 84 = .ok (.getfield 37, 3) := by decide +kernel
theorem dX8_inviteAt_87 : decode cX8_inviteAt 87 = .ok (.bipush 124, 2) := by decide +kernel
theorem dX8_inviteAt_89 : decode cX8_inviteAt 89 = .ok (.iload 7, 2) := by decide +kernel
theorem dX8_inviteAt_91 : decode cX8_inviteAt 91 = .ok (.iconst 1, 1) := by decide +kernel
theorem dX8_inviteAt_92 : decode cX8_inviteAt 92 = .ok (.iadd, 1) := by decide +kernel
theorem dX8_inviteAt_93 : decode cX8_inviteAt 93 = .ok (.imul, 1) := by decide +kernel
theorem dX8_inviteAt_94 : decode cX8_inviteAt 94 = .ok (.aload_n 0, 1) := by decide +kernel
theorem dX8_inviteAt_95 : decode cX8_inviteAt 95 = .ok (.iload_n 1, 1) := by decide +kernel
theorem dX8_inviteAt_96 : decode cX8_inviteAt 96 = .ok (.iload 5, 2) := by decide +kernel
theorem dX8_inviteAt_98 : decode cX8_inviteAt 98 = .ok (.iload 6, 2) := by decide +kernel
theorem dX8_inviteAt_100 : decode cX8_inviteAt 100 = .ok (.invokevirtual 163, 3) := by decide +kernel
theorem dX8_inviteAt_103 : decode cX8_inviteAt 103 = .ok (.iadd, 1) := by decide +kernel
theorem dX8_inviteAt_104 : decode cX8_inviteAt 104 = .ok (.iaload, 1) := by decide +kernel
theorem dX8_inviteAt_105 : decode cX8_inviteAt 105 = .ok (.iadd, 1) := by decide +kernel
theorem dX8_inviteAt_106 : decode cX8_inviteAt 106 = .ok (.aload_n 0, 1) := by decide +kernel
theorem dX8_inviteAt_107 : decode cX8_inviteAt 107 = .ok (.getfield 37, 3) := by decide +kernel
theorem dX8_inviteAt_110 : decode cX8_inviteAt 110 = .ok (.bipush 124, 2) := by decide +kernel
theorem dX8_inviteAt_112 : decode cX8_inviteAt 112 = .ok (.iload 7, 2) := by decide +kernel
theorem dX8_inviteAt_114 : decode cX8_inviteAt 114 = .ok (.imul, 1) := by decide +kernel
theorem dX8_inviteAt_115 : decode cX8_inviteAt 115 = .ok (.iload 5, 2) := by decide +kernel
theorem dX8_inviteAt_117 : decode cX8_inviteAt 117 = .ok (.iadd, 1) := by decide +kernel
theorem dX8_inviteAt_118 : decode cX8_inviteAt 118 = .ok (.iaload, 1) := by decide +kernel
theorem dX8_inviteAt_119 : decode cX8_inviteAt 119 = .ok (.if_icmp .eq 9, 3) := by decide +kernel
theorem dX8_inviteAt_122 : decode cX8_inviteAt 122 = .ok (.iinc 6 1, 3) := by decide +kernel
theorem dX8_inviteAt_125 : decode cX8_inviteAt 125 = .ok (.goto (-48), 3) := by decide +kernel
theorem dX8_inviteAt_128 : decode cX8_inviteAt 128 = .ok (.aload_n 0, 1) := by decide +kernel
theorem dX8_inviteAt_129 : decode cX8_inviteAt 129 = .ok (.iload_n 1, 1) := by decide +kernel
theorem dX8_inviteAt_130 : decode cX8_inviteAt 130 = .ok (.iload 5, 2) := by decide +kernel
theorem dX8_inviteAt_132 : decode cX8_inviteAt 132 = .ok (.iload 6, 2) := by decide +kernel
theorem dX8_inviteAt_134 : decode cX8_inviteAt 134 = .ok (.invokevirtual 163, 3) := by decide +kernel
theorem dX8_inviteAt_137 : decode cX8_inviteAt 137 = .ok (.istore 5, 2) := by decide +kernel
theorem dX8_inviteAt_139 : decode cX8_inviteAt 139 = .ok (.iinc 7 1, 3) := by decide +kernel
theorem dX8_inviteAt_142 : decode cX8_inviteAt 142 = .ok (.goto (-74), 3) := by decide +kernel
theorem dX8_inviteAt_145 : decode cX8_inviteAt 145 = .ok (.iload 6, 2) := by decide +kernel
theorem dX8_inviteAt_147 : decode cX8_inviteAt 147 = .ok (.ireturn, 1) := by decide +kernel
set_option maxRecDepth 20000 in
theorem ggX8_see_X8_in : GoodIn wsX8_see wsX8_in := goodIn_r _ [7] (by decide +kernel) (by decide +kernel)
set_option maxRecDepth 20000 in
theorem gX8_see_X8_in : GoodIn wsX8_see (va_wsS RX8 59 yX8_in wsX8_in) := goodIn_app (goodIn_of _ (by decide +kernel)) ggX8_see_X8_in
theorem dX8_see_0 : decode cX8_see 0 = .ok (.iload_n 1, 1) := by decide +kernel
theorem dX8_see_1 : decode cX8_see 1 = .ok (.i2l, 1) := by decide +kernel
theorem dX8_see_2 : decode cX8_see 2 = .ok (.lconst 0, 1) := by decide +kernel
theorem dX8_see_3 : decode cX8_see 3 = .ok (.ldc2_w 137, 3) := by decide +kernel
theorem dX8_see_6 : decode cX8_see 6 = .ok (.invokestatic 59, 3) := by decide +kernel
theorem dX8_see_9 : decode cX8_see 9 = .ok (.ifCond .eq 15, 3) := by decide +kernel
theorem dX8_see_12 : decode cX8_see 12 = .ok (.iload_n 2, 1) := by decide +kernel
theorem dX8_see_13 : decode cX8_see 13 = .ok (.i2l, 1) := by decide +kernel
theorem dX8_see_14 : decode cX8_see 14 = .ok (.lconst 0, 1) := by decide +kernel
theorem dX8_see_15 : decode cX8_see 15 = .ok (.ldc2_w 175, 3) := by decide +kernel
theorem dX8_see_18 : decode cX8_see 18 = .ok (.invokestatic 59, 3) := by decide +kernel
theorem dX8_see_21 : decode cX8_see 21 = .ok (.ifCond .ne 6, 3) := by decide +kernel
theorem dX8_see_24 : decode cX8_see 24 = .ok (.bipush (-2), 2) := by decide +kernel
theorem dX8_see_26 : decode cX8_see 26 = .ok (.ireturn, 1) := by decide +kernel
theorem dX8_see_27 : decode cX8_see 27 = .ok (.aload_n 0, 1) := by decide +kernel
theorem dX8_see_28 : decode cX8_see 28 = .ok (.getfield 40, 3) := by decide +kernel
theorem dX8_see_31 : decode cX8_see 31 = .ok (.iload_n 1, 1) := by decide +kernel
theorem dX8_see_32 : decode cX8_see 32 = .ok (.iaload, 1) := by decide +kernel
theorem dX8_see_33 : decode cX8_see 33 = .ok (.istore_n 3, 1) := by decide +kernel
theorem dX8_see_34 : decode cX8_see 34 = .ok (.aload_n 0, 1) := by decide +kernel
theorem dX8_see_35 : decode cX8_see 35 = .ok (.getfield 40, 3) := by decide +kernel
theorem dX8_see_38 : decode cX8_see 38 = .ok (.iload_n 1, 1) := by decide +kernel
theorem dX8_see_39 : decode cX8_see 39 = .ok (.iload_n 2, 1) := by decide +kernel
theorem dX8_see_40 : decode cX8_see 40 = .ok (.iastore, 1) := by decide +kernel
theorem dX8_see_41 : decode cX8_see 41 = .ok (.iload_n 3, 1) := by decide +kernel
theorem dX8_see_42 : decode cX8_see 42 = .ok (.ireturn, 1) := by decide +kernel
theorem dX8_toldMany_0 : decode cX8_toldMany 0 = .ok (.iconst 0, 1) := by decide +kernel
theorem dX8_toldMany_1 : decode cX8_toldMany 1 = .ok (.istore_n 1, 1) := by decide +kernel
theorem dX8_toldMany_2 : decode cX8_toldMany 2 = .ok (.iconst 0, 1) := by decide +kernel
theorem dX8_toldMany_3 : decode cX8_toldMany 3 = .ok (.istore_n 2, 1) := by decide +kernel
theorem dX8_toldMany_4 : decode cX8_toldMany 4 = .ok (.iload_n 2, 1) := by decide +kernel
theorem dX8_toldMany_5 : decode cX8_toldMany 5 = .ok (.iconst 4, 1) := by decide +kernel
theorem dX8_toldMany_6 : decode cX8_toldMany 6 = .ok (.if_icmp .ge 28, 3) := by decide +kernel
theorem dX8_toldMany_9 : decode cX8_toldMany 9 = .ok (.iload_n 1, 1) := by decide +kernel
theorem dX8_toldMany_10 : decode cX8_toldMany 10 = .ok (.aload_n 0, 1) := by decide +kernel
theorem dX8_toldMany_11 : decode cX8_toldMany 11 = .ok (.getfield 40, 3) := by decide +kernel
theorem dX8_toldMany_14 : decode cX8_toldMany 14 = .ok (.iload_n 2, 1) := by decide +kernel
theorem dX8_toldMany_15 : decode cX8_toldMany 15 = .ok (.iaload, 1) := by decide +kernel
theorem dX8_toldMany_16 : decode cX8_toldMany 16 = .ok (.bipush (-9), 2) := by decide +kernel
theorem dX8_toldMany_18 : decode cX8_toldMany 18 = .ok (.if_icmp .eq 7, 3) := by decide +kernel
theorem dX8_toldMany_21 : decode cX8_toldMany 21 = .ok (.iconst 1, 1) := by decide +kernel
theorem dX8_toldMany_22 : decode cX8_toldMany 22 = .ok (.goto 4, 3) := by decide +kernel
theorem dX8_toldMany_25 : decode cX8_toldMany 25 = .ok (.iconst 0, 1) := by decide +kernel
theorem dX8_toldMany_26 : decode cX8_toldMany 26 = .ok (.iadd, 1) := by decide +kernel
theorem dX8_toldMany_27 : decode cX8_toldMany 27 = .ok (.istore_n 1, 1) := by decide +kernel
theorem dX8_toldMany_28 : decode cX8_toldMany 28 = .ok (.iinc 2 1, 3) := by decide +kernel
theorem dX8_toldMany_31 : decode cX8_toldMany 31 = .ok (.goto (-27), 3) := by decide +kernel
theorem dX8_toldMany_34 : decode cX8_toldMany 34 = .ok (.iload_n 1, 1) := by decide +kernel
theorem dX8_toldMany_35 : decode cX8_toldMany 35 = .ok (.ireturn, 1) := by decide +kernel
set_option maxRecDepth 20000 in
theorem ggX8_unsee_X8_toldMany : GoodIn wsX8_unsee wsX8_toldMany := goodIn_r _ [6, 1, 7, 8, 9, 10, 11, 12, 13, 14, 15, 16, 17, 18, 19, 20, 21, 22, 23, 24, 25, 26, 27, 28, 29, 30, 31, 32, 33] (by decide +kernel) (by decide +kernel)
set_option maxRecDepth 20000 in
theorem gX8_unsee_X8_toldMany : GoodIn wsX8_unsee (wsV RX8 177 RX8 yX8_toldMany wsX8_toldMany) := goodIn_app (goodIn_of _ (by decide +kernel)) ggX8_unsee_X8_toldMany
theorem dX8_unsee_0 : decode cX8_unsee 0 = .ok (.aload_n 0, 1) := by decide +kernel
theorem dX8_unsee_1 : decode cX8_unsee 1 = .ok (.invokevirtual 177, 3) := by decide +kernel
theorem dX8_unsee_4 : decode cX8_unsee 4 = .ok (.istore_n 1, 1) := by decide +kernel
theorem dX8_unsee_5 : decode cX8_unsee 5 = .ok (.iconst 0, 1) := by decide +kernel
theorem dX8_unsee_6 : decode cX8_unsee 6 = .ok (.istore_n 2, 1) := by decide +kernel
theorem dX8_unsee_7 : decode cX8_unsee 7 = .ok (.iload_n 2, 1) := by decide +kernel
theorem dX8_unsee_8 : decode cX8_unsee 8 = .ok (.iconst 4, 1) := by decide +kernel
theorem dX8_unsee_9 : decode cX8_unsee 9 = .ok (.if_icmp .ge 17, 3) := by decide +kernel
theorem dX8_unsee_12 : decode cX8_unsee 12 = .ok (.aload_n 0, 1) := by decide +kernel
theorem dX8_unsee_13 : decode cX8_unsee 13 = .ok (.getfield 40, 3) := by decide +kernel
theorem dX8_unsee_16 : decode cX8_unsee 16 = .ok (.iload_n 2, 1) := by decide +kernel
theorem dX8_unsee_17 : decode cX8_unsee 17 = .ok (.bipush (-9), 2) := by decide +kernel
theorem dX8_unsee_19 : decode cX8_unsee 19 = .ok (.iastore, 1) := by decide +kernel
theorem dX8_unsee_20 : decode cX8_unsee 20 = .ok (.iinc 2 1, 3) := by decide +kernel
theorem dX8_unsee_23 : decode cX8_unsee 23 = .ok (.goto (-16), 3) := by decide +kernel
theorem dX8_unsee_26 : decode cX8_unsee 26 = .ok (.iload_n 1, 1) := by decide +kernel
theorem dX8_unsee_27 : decode cX8_unsee 27 = .ok (.ireturn, 1) := by decide +kernel
theorem dX8_fits_0 : decode cX8_fits 0 = .ok (.iconst 1, 1) := by decide +kernel
theorem dX8_fits_1 : decode cX8_fits 1 = .ok (.istore_n 2, 1) := by decide +kernel
theorem dX8_fits_2 : decode cX8_fits 2 = .ok (.iconst 0, 1) := by decide +kernel
theorem dX8_fits_3 : decode cX8_fits 3 = .ok (.istore_n 3, 1) := by decide +kernel
theorem dX8_fits_4 : decode cX8_fits 4 = .ok (.iload_n 3, 1) := by decide +kernel
theorem dX8_fits_5 : decode cX8_fits 5 = .ok (.iconst 4, 1) := by decide +kernel
theorem dX8_fits_6 : decode cX8_fits 6 = .ok (.if_icmp .ge 92, 3) := by decide +kernel
theorem dX8_fits_9 : decode cX8_fits 9 = .ok (.iconst 0, 1) := by decide +kernel
theorem dX8_fits_10 : decode cX8_fits 10 = .ok (.istore 4, 2) := by decide +kernel
theorem dX8_fits_12 : decode cX8_fits 12 = .ok (.iconst 0, 1) := by decide +kernel
theorem dX8_fits_13 : decode cX8_fits 13 = .ok (.istore 5, 2) := by decide +kernel
theorem dX8_fits_15 : decode cX8_fits 15 = .ok (.iload 5, 2) := by decide +kernel
theorem dX8_fits_17 : decode cX8_fits 17 = .ok (.aload_n 0, 1) := by decide +kernel
theorem dX8_fits_18 : decode cX8_fits 18 = .ok (.getfield 111, 3) := by decide +kernel
theorem dX8_fits_21 : decode cX8_fits 21 = .ok (.if_icmp .ge 39, 3) := by decide +kernel
theorem dX8_fits_24 : decode cX8_fits 24 = .ok (.iload 4, 2) := by decide +kernel
theorem dX8_fits_26 : decode cX8_fits 26 = .ok (.aload_n 0, 1) := by decide +kernel
theorem dX8_fits_27 : decode cX8_fits 27 = .ok (.getfield 22, 3) := by decide +kernel
theorem dX8_fits_30 : decode cX8_fits 30 = .ok (.iconst 4, 1) := by decide +kernel
theorem dX8_fits_31 : decode cX8_fits 31 = .ok (.iload 5, 2) := by decide +kernel
theorem dX8_fits_33 : decode cX8_fits 33 = .ok (.imul, 1) := by decide +kernel
theorem dX8_fits_34 : decode cX8_fits 34 = .ok (.iconst 1, 1) := by decide +kernel
theorem dX8_fits_35 : decode cX8_fits 35 = .ok (.iadd, 1) := by decide +kernel
theorem dX8_fits_36 : decode cX8_fits 36 = .ok (.iaload, 1) := by decide +kernel
theorem dX8_fits_37 : decode cX8_fits 37 = .ok (.iload_n 3, 1) := by decide +kernel
theorem dX8_fits_38 : decode cX8_fits 38 = .ok (.if_icmp .ne 12, 3) := by decide +kernel
theorem dX8_fits_41 : decode cX8_fits 41 = .ok (.iload_n 1, 1) := by decide +kernel
theorem dX8_fits_42 : decode cX8_fits 42 = .ok (.iload 5, 2) := by decide +kernel
theorem dX8_fits_44 : decode cX8_fits 44 = .ok (.ishr, 1) := by decide +kernel
theorem dX8_fits_45 : decode cX8_fits 45 = .ok (.iconst 1, 1) := by decide +kernel
theorem dX8_fits_46 : decode cX8_fits 46 = .ok (.iand, 1) := by decide +kernel
theorem dX8_fits_47 : decode cX8_fits 47 = .ok (.goto 4, 3) := by decide +kernel
theorem dX8_fits_50 : decode cX8_fits 50 = .ok (.iconst 0, 1) := by decide +kernel
theorem dX8_fits_51 : decode cX8_fits 51 = .ok (.iadd, 1) := by decide +kernel
theorem dX8_fits_52 : decode cX8_fits 52 = .ok (.istore 4, 2) := by decide +kernel
theorem dX8_fits_54 : decode cX8_fits 54 = .ok (.iinc 5 1, 3) := by decide +kernel
theorem dX8_fits_57 : decode cX8_fits 57 = .ok (.goto (-42), 3) := by decide +kernel
theorem dX8_fits_60 : decode cX8_fits 60 = .ok (.iload_n 2, 1) := by decide +kernel
theorem dX8_fits_61 : decode cX8_fits 61 = .ok (.ifCond .eq 29, 3) := by decide +kernel
theorem dX8_fits_64 : decode cX8_fits 64 = .ok (.aload_n 0, 1) := by decide +kernel
theorem dX8_fits_65 : decode cX8_fits 65 = .ok (.getfield 40, 3) := by decide +kernel
theorem dX8_fits_68 : decode cX8_fits 68 = .ok (.iload_n 3, 1) := by decide +kernel
theorem dX8_fits_69 : decode cX8_fits 69 = .ok (.iaload, 1) := by decide +kernel
theorem dX8_fits_70 : decode cX8_fits 70 = .ok (.bipush (-9), 2) := by decide +kernel
theorem dX8_fits_72 : decode cX8_fits 72 = .ok (.if_icmp .eq 14, 3) := by decide +kernel
theorem dX8_fits_75 : decode cX8_fits 75 = .ok (.aload_n 0, 1) := by decide +kernel
theorem dX8_fits_76 : decode cX8_fits 76 = .ok (.getfield 40, 3) := by decide +kernel
theorem dX8_fits_79 : decode cX8_fits 79 = .ok (.iload_n 3, 1) := by decide +kernel
theorem dX8_fits_80 : decode cX8_fits 80 = .ok (.iaload, 1) := by decide +kernel
theorem dX8_fits_81 : decode cX8_fits 81 = .ok (.iload 4, 2) := by decide +kernel
theorem dX8_fits_83 : decode cX8_fits 83 = .ok (.if_icmp .ne 7, 3) := by decide +kernel
theorem dX8_fits_86 : decode cX8_fits 86 = .ok (.iconst 1, 1) := by decide +kernel
theorem dX8_fits_87 : decode cX8_fits 87 = .ok (.goto 4, 3) := by decide +kernel
theorem dX8_fits_90 : decode cX8_fits 90 = .ok (.iconst 0, 1) := by decide +kernel
theorem dX8_fits_91 : decode cX8_fits 91 = .ok (.istore_n 2, 1) := by decide +kernel
theorem dX8_fits_92 : decode cX8_fits 92 = .ok (.iinc 3 1, 3) := by decide +kernel
theorem dX8_fits_95 : decode cX8_fits 95 = .ok (.goto (-91), 3) := by decide +kernel
theorem dX8_fits_98 : decode cX8_fits 98 = .ok (.iload_n 2, 1) := by decide +kernel
theorem dX8_fits_99 : decode cX8_fits 99 = .ok (.ireturn, 1) := by decide +kernel
set_option maxRecDepth 20000 in
theorem ggX8_who_X8_in : GoodIn wsX8_who wsX8_in := goodIn_r _ [6] (by decide +kernel) (by decide +kernel)
set_option maxRecDepth 20000 in
theorem gX8_who_X8_in : GoodIn wsX8_who (va_wsS RX8 59 yX8_in wsX8_in) := goodIn_app (goodIn_of _ (by decide +kernel)) ggX8_who_X8_in
set_option maxRecDepth 20000 in
theorem ggX8_who_X8_fits : GoodIn wsX8_who wsX8_fits := goodIn_r _ [10, 2, 11, 12, 13, 14, 15, 16, 17, 18, 19, 20, 21, 22, 23, 24, 25, 26, 27, 28, 29, 30, 31, 32, 33, 34, 35, 36, 37, 38, 39] (by decide +kernel) (by decide +kernel)
set_option maxRecDepth 20000 in
theorem gX8_who_X8_fits : GoodIn wsX8_who (wsV RX8 182 RX8 yX8_fits wsX8_fits) := goodIn_app (goodIn_of _ (by decide +kernel)) ggX8_who_X8_fits
theorem dX8_who_0 : decode cX8_who 0 = .ok (.iload_n 1, 1) := by decide +kernel
theorem dX8_who_1 : decode cX8_who 1 = .ok (.i2l, 1) := by decide +kernel
theorem dX8_who_2 : decode cX8_who 2 = .ok (.lconst 0, 1) := by decide +kernel
theorem dX8_who_3 : decode cX8_who 3 = .ok (.ldc2_w 180, 3) := by decide +kernel
theorem dX8_who_6 : decode cX8_who 6 = .ok (.invokestatic 59, 3) := by decide +kernel
theorem dX8_who_9 : decode cX8_who 9 = .ok (.ifCond .ne 6, 3) := by decide +kernel
theorem dX8_who_12 : decode cX8_who 12 = .ok (.bipush (-2), 2) := by decide +kernel
theorem dX8_who_14 : decode cX8_who 14 = .ok (.ireturn, 1) := by decide +kernel
theorem dX8_who_15 : decode cX8_who 15 = .ok (.iconst 1, 1) := by decide +kernel
theorem dX8_who_16 : decode cX8_who 16 = .ok (.aload_n 0, 1) := by decide +kernel
theorem dX8_who_17 : decode cX8_who 17 = .ok (.getfield 111, 3) := by decide +kernel
theorem dX8_who_20 : decode cX8_who 20 = .ok (.ishl, 1) := by decide +kernel
theorem dX8_who_21 : decode cX8_who 21 = .ok (.iconst 1, 1) := by decide +kernel
theorem dX8_who_22 : decode cX8_who 22 = .ok (.isub, 1) := by decide +kernel
theorem dX8_who_23 : decode cX8_who 23 = .ok (.istore_n 2, 1) := by decide +kernel
theorem dX8_who_24 : decode cX8_who 24 = .ok (.iconst 0, 1) := by decide +kernel
theorem dX8_who_25 : decode cX8_who 25 = .ok (.istore_n 3, 1) := by decide +kernel
theorem dX8_who_26 : decode cX8_who 26 = .ok (.iload_n 2, 1) := by decide +kernel
theorem dX8_who_27 : decode cX8_who 27 = .ok (.istore 4, 2) := by decide +kernel
theorem dX8_who_29 : decode cX8_who 29 = .ok (.iload_n 2, 1) := by decide +kernel
theorem dX8_who_30 : decode cX8_who 30 = .ok (.istore 5, 2) := by decide +kernel
theorem dX8_who_32 : decode cX8_who 32 = .ok (.iconst 0, 1) := by decide +kernel
theorem dX8_who_33 : decode cX8_who 33 = .ok (.istore 6, 2) := by decide +kernel
theorem dX8_who_35 : decode cX8_who 35 = .ok (.iload 6, 2) := by decide +kernel
theorem dX8_who_37 : decode cX8_who 37 = .ok (.iload_n 2, 1) := by decide +kernel
theorem dX8_who_38 : decode cX8_who 38 = .ok (.if_icmp .gt 37, 3) := by decide +kernel
theorem dX8_who_41 : decode cX8_who 41 = .ok (.aload_n 0, 1) := by decide +kernel
theorem dX8_who_42 : decode cX8_who 42 = .ok (.iload 6, 2) := by decide +kernel
theorem dX8_who_44 : decode cX8_who 44 = .ok (.invokevirtual 182, 3) := by decide +kernel
theorem dX8_who_47 : decode cX8_who 47 = .ok (.ifCond .eq 22, 3) := by decide +kernel
theorem dX8_who_50 : decode cX8_who 50 = .ok (.iinc 3 1, 3) := by decide +kernel
theorem dX8_who_53 : decode cX8_who 53 = .ok (.iload 4, 2) := by decide +kernel
theorem dX8_who_55 : decode cX8_who 55 = .ok (.iload 6, 2) := by decide +kernel
theorem dX8_who_57 : decode cX8_who 57 = .ok (.iand, 1) := by decide +kernel
theorem dX8_who_58 : decode cX8_who 58 = .ok (.istore 4, 2) := by decide +kernel
theorem dX8_who_60 : decode cX8_who 60 = .ok (.iload 5, 2) := by decide +kernel
theorem dX8_who_62 : decode cX8_who 62 = .ok (.iload 6, 2) := by decide +kernel
theorem dX8_who_64 : decode cX8_who 64 = .ok (.iconst (-1), 1) := by decide +kernel
theorem dX8_who_65 : decode cX8_who 65 = .ok (.ixor, 1) := by decide +kernel
theorem dX8_who_66 : decode cX8_who 66 = .ok (.iand, 1) := by decide +kernel
theorem dX8_who_67 : decode cX8_who 67 = .ok (.istore 5, 2) := by decide +kernel
theorem dX8_who_69 : decode cX8_who 69 = .ok (.iinc 6 1, 3) := by decide +kernel
theorem dX8_who_72 : decode cX8_who 72 = .ok (.goto (-37), 3) := by decide +kernel
theorem dX8_who_75 : decode cX8_who 75 = .ok (.iload_n 1, 1) := by decide +kernel
theorem dX8_who_76 : decode cX8_who 76 = .ok (.ifCond .ne 7, 3) := by decide +kernel
theorem dX8_who_79 : decode cX8_who 79 = .ok (.iload_n 3, 1) := by decide +kernel
theorem dX8_who_80 : decode cX8_who 80 = .ok (.goto 24, 3) := by decide +kernel
theorem dX8_who_83 : decode cX8_who 83 = .ok (.iload_n 3, 1) := by decide +kernel
theorem dX8_who_84 : decode cX8_who 84 = .ok (.ifCond .ne 8, 3) := by decide +kernel
theorem dX8_who_87 : decode cX8_who 87 = .ok (.bipush (-9), 2) := by decide +kernel
theorem dX8_who_89 : decode cX8_who 89 = .ok (.goto 15, 3) := by decide +kernel
theorem dX8_who_92 : decode cX8_who 92 = .ok (.iload_n 1, 1) := by decide +kernel
theorem dX8_who_93 : decode cX8_who 93 = .ok (.iconst 1, 1) := by decide +kernel
theorem dX8_who_94 : decode cX8_who 94 = .ok (.if_icmp .ne 8, 3) := by decide +kernel
theorem dX8_who_97 : decode cX8_who 97 = .ok (.iload 4, 2) := by decide +kernel
theorem dX8_who_99 : decode cX8_who 99 = .ok (.goto 5, 3) := by decide +kernel
theorem dX8_who_102 : decode cX8_who 102 = .ok (.iload 5, 2) := by decide +kernel
theorem dX8_who_104 : decode cX8_who 104 = .ok (.ireturn, 1) := by decide +kernel
theorem dX8_part_0 : decode cX8_part 0 = .ok (.lload_n 0, 1) := by decide +kernel
theorem dX8_part_1 : decode cX8_part 1 = .ok (.lstore 5, 2) := by decide +kernel
theorem dX8_part_3 : decode cX8_part 3 = .ok (.lload_n 2, 1) := by decide +kernel
theorem dX8_part_4 : decode cX8_part 4 = .ok (.lstore 7, 2) := by decide +kernel
theorem dX8_part_6 : decode cX8_part 6 = .ok (.lload 7, 2) := by decide +kernel
theorem dX8_part_8 : decode cX8_part 8 = .ok (.lconst 0, 1) := by decide +kernel
theorem dX8_part_9 : decode cX8_part 9 = .ok (.lcmp, 1) := by decide +kernel
theorem dX8_part_10 : decode cX8_part 10 = .ok (.ifCond .eq 21, 3) := by decide +kernel
theorem dX8_part_13 : decode cX8_part 13 = .ok (.lload 5, 2) := by decide +kernel
theorem dX8_part_15 : decode cX8_part 15 = .ok (.lload 7, 2) := by decide +kernel
theorem dX8_part_17 : decode cX8_part 17 = .ok (.lrem, 1) := by decide +kernel
theorem dX8_part_18 : decode cX8_part 18 = .ok (.lstore 9, 2) := by decide +kernel
theorem dX8_part_20 : decode cX8_part 20 = .ok (.lload 7, 2) := by decide +kernel
theorem dX8_part_22 : decode cX8_part 22 = .ok (.lstore 5, 2) := by decide +kernel
theorem dX8_part_24 : decode cX8_part 24 = .ok (.lload 9, 2) := by decide +kernel
theorem dX8_part_26 : decode cX8_part 26 = .ok (.lstore 7, 2) := by decide +kernel
theorem dX8_part_28 : decode cX8_part 28 = .ok (.goto (-22), 3) := by decide +kernel
theorem dX8_part_31 : decode cX8_part 31 = .ok (.iload 4, 2) := by decide +kernel
theorem dX8_part_33 : decode cX8_part 33 = .ok (.ifCond .eq 10, 3) := by decide +kernel
theorem dX8_part_36 : decode cX8_part 36 = .ok (.lload_n 0, 1) := by decide +kernel
theorem dX8_part_37 : decode cX8_part 37 = .ok (.lload 5, 2) := by decide +kernel
theorem dX8_part_39 : decode cX8_part 39 = .ok (.ldiv, 1) := by decide +kernel
theorem dX8_part_40 : decode cX8_part 40 = .ok (.goto 7, 3) := by decide +kernel
theorem dX8_part_43 : decode cX8_part 43 = .ok (.lload_n 2, 1) := by decide +kernel
theorem dX8_part_44 : decode cX8_part 44 = .ok (.lload 5, 2) := by decide +kernel
theorem dX8_part_46 : decode cX8_part 46 = .ok (.ldiv, 1) := by decide +kernel
theorem dX8_part_47 : decode cX8_part 47 = .ok (.lreturn, 1) := by decide +kernel
theorem dX8_partsOf_0 : decode cX8_partsOf 0 = .ok (.lconst 1, 1) := by decide +kernel
theorem dX8_partsOf_1 : decode cX8_partsOf 1 = .ok (.lstore_n 3, 1) := by decide +kernel
theorem dX8_partsOf_2 : decode cX8_partsOf 2 = .ok (.iconst 0, 1) := by decide +kernel
theorem dX8_partsOf_3 : decode cX8_partsOf 3 = .ok (.istore 5, 2) := by decide +kernel
theorem dX8_partsOf_5 : decode cX8_partsOf 5 = .ok (.iload 5, 2) := by decide +kernel
theorem dX8_partsOf_7 : decode cX8_partsOf 7 = .ok (.aload_n 0, 1) := by decide +kernel
theorem dX8_partsOf_8 : decode cX8_partsOf 8 = .ok (.getfield 111, 3) := by decide +kernel
theorem dX8_partsOf_11 : decode cX8_partsOf 11 = .ok (.if_icmp .ge 90, 3) := by decide +kernel
theorem dX8_partsOf_14 : decode cX8_partsOf 14 = .ok (.iload_n 2, 1) := by decide +kernel
theorem dX8_partsOf_15 : decode cX8_partsOf 15 = .ok (.iload 5, 2) := by decide +kernel
theorem dX8_partsOf_17 : decode cX8_partsOf 17 = .ok (.ishr, 1) := by decide +kernel
theorem dX8_partsOf_18 : decode cX8_partsOf 18 = .ok (.iconst 1, 1) := by decide +kernel
theorem dX8_partsOf_19 : decode cX8_partsOf 19 = .ok (.iand, 1) := by decide +kernel
theorem dX8_partsOf_20 : decode cX8_partsOf 20 = .ok (.iconst 1, 1) := by decide +kernel
theorem dX8_partsOf_21 : decode cX8_partsOf 21 = .ok (.if_icmp .ne 7, 3) := by decide +kernel
theorem dX8_partsOf_24 : decode cX8_partsOf 24 = .ok (.iconst 1, 1) := by decide +kernel
theorem dX8_partsOf_25 : decode cX8_partsOf 25 = .ok (.goto 4, 3) := by decide +kernel
theorem dX8_partsOf_28 : decode cX8_partsOf 28 = .ok (.iconst 0, 1) := by decide +kernel
theorem dX8_partsOf_29 : decode cX8_partsOf 29 = .ok (.istore 6, 2) := by decide +kernel
theorem dX8_partsOf_31 : decode cX8_partsOf 31 = .ok (.lload_n 3, 1) := by decide +kernel
theorem dX8_partsOf_32 : decode cX8_partsOf 32 = .ok (.aload_n 0, 1) := by decide +kernel
theorem dX8_partsOf_33 : decode cX8_partsOf 33 = .ok (.getfield 22, 3) := by decide +kernel
theorem dX8_partsOf_36 : decode cX8_partsOf 36 = .ok (.iconst 4, 1) := by decide +kernel
theorem dX8_partsOf_37 : decode cX8_partsOf 37 = .ok (.iload 5, 2) := by decide +kernel
theorem dX8_partsOf_39 : decode cX8_partsOf 39 = .ok (.imul, 1) := by decide +kernel
theorem dX8_partsOf_40 : decode cX8_partsOf 40 = .ok (.iaload, 1) := by decide +kernel
theorem dX8_partsOf_41 : decode cX8_partsOf 41 = .ok (.iload_n 1, 1) := by decide +kernel
theorem dX8_partsOf_42 : decode cX8_partsOf 42 = .ok (.if_icmp .eq 16, 3) := by decide +kernel
theorem dX8_partsOf_45 : decode cX8_partsOf 45 = .ok (.iload 6, 2) := by decide +kernel
theorem dX8_partsOf_47 : decode cX8_partsOf 47 = .ok (.ifCond .eq 7, 3) := by decide +kernel
theorem dX8_partsOf_50 : decode cX8_partsOf 50 = .ok (.lconst 0, 1) := by decide +kernel
theorem dX8_partsOf_51 : decode cX8_partsOf 51 = .ok (.goto 42, 3) := by decide +kernel
theorem dX8_partsOf_54 : decode cX8_partsOf 54 = .ok (.lconst 1, 1) := by decide +kernel
theorem dX8_partsOf_55 : decode cX8_partsOf 55 = .ok (.goto 38, 3) := by decide +kernel
theorem dX8_partsOf_58 : decode cX8_partsOf 58 = .ok (.iload 6, 2) := by decide +kernel
theorem dX8_partsOf_60 : decode cX8_partsOf 60 = .ok (.ifCond .eq 21, 3) := by decide +kernel
theorem dX8_partsOf_63 : decode cX8_partsOf 63 = .ok (.bipush 10, 2) := by decide +kernel
theorem dX8_partsOf_65 : decode cX8_partsOf 65 = .ok (.aload_n 0, 1) := by decide +kernel
theorem dX8_partsOf_66 : decode cX8_partsOf 66 = .ok (.getfield 22, 3) := by decide +kernel
theorem dX8_partsOf_69 : decode cX8_partsOf 69 = .ok (.iconst 4, 1) := by decide +kernel
theorem dX8_partsOf_70 : decode cX8_partsOf 70 = .ok (.iload 5, 2) := by decide +kernel
theorem dX8_partsOf_72 : decode cX8_partsOf 72 = .ok (.imul, 1) := by decide +kernel
theorem dX8_partsOf_73 : decode cX8_partsOf 73 = .ok (.iconst 3, 1) := by decide +kernel
theorem dX8_partsOf_74 : decode cX8_partsOf 74 = .ok (.iadd, 1) := by decide +kernel
theorem dX8_partsOf_75 : decode cX8_partsOf 75 = .ok (.iaload, 1) := by decide +kernel
theorem dX8_partsOf_76 : decode cX8_partsOf 76 = .ok (.isub, 1) := by decide +kernel
theorem dX8_partsOf_77 : decode cX8_partsOf 77 = .ok (.i2l, 1) := by decide +kernel
theorem dX8_partsOf_78 : decode cX8_partsOf 78 = .ok (.goto 15, 3) := by decide +kernel
theorem dX8_partsOf_81 : decode cX8_partsOf 81 = .ok (.aload_n 0, 1) := by decide +kernel
theorem dX8_partsOf_82 : decode cX8_partsOf 82 = .ok (.getfield 22, 3) := by decide +kernel
theorem dX8_partsOf_85 : decode cX8_partsOf 85 = .ok (.iconst 4, 1) := by decide +kernel
theorem dX8_partsOf_86 : decode cX8_partsOf 86 = .ok (.iload 5, 2) := by decide +kernel
theorem dX8_partsOf_88 : decode cX8_partsOf 88 = .ok (.imul, 1) := by decide +kernel
theorem dX8_partsOf_89 : decode cX8_partsOf 89 = .ok (.iconst 3, 1) := by decide +kernel
theorem dX8_partsOf_90 : decode cX8_partsOf 90 = .ok (.iadd, 1) := by decide +kernel
theorem dX8_partsOf_91 : decode cX8_partsOf 91 = .ok (.iaload, 1) := by decide +kernel
theorem dX8_partsOf_92 : decode cX8_partsOf 92 = .ok (.i2l, 1) := by decide +kernel
theorem dX8_partsOf_93 : decode cX8_partsOf 93 = .ok (.lmul, 1) := by decide +kernel
theorem dX8_partsOf_94 : decode cX8_partsOf 94 = .ok (.lstore_n 3, 1) := by decide +kernel
theorem dX8_partsOf_95 : decode cX8_partsOf 95 = .ok (.iinc 5 1, 3) := by decide +kernel
theorem dX8_partsOf_98 : decode cX8_partsOf 98 = .ok (.goto (-93), 3) := by decide +kernel
theorem dX8_partsOf_101 : decode cX8_partsOf 101 = .ok (.lload_n 3, 1) := by decide +kernel
theorem dX8_partsOf_102 : decode cX8_partsOf 102 = .ok (.lreturn, 1) := by decide +kernel
set_option maxRecDepth 20000 in
theorem ggX8_luck_X8_isRoom : GoodIn wsX8_luck wsX8_isRoom := goodIn_r _ [13, 14, 15, 16, 12, 17, 30, 31, 32, 33, 34, 35, 36, 37, 38, 39, 40, 41, 42, 43, 44, 45, 46, 47, 48, 49, 50, 51, 52, 53, 54, 55, 56] (by decide +kernel) (by decide +kernel)
set_option maxRecDepth 20000 in
theorem gX8_luck_X8_isRoom : GoodIn wsX8_luck (wsV RX8 120 RX8 yX8_isRoom wsX8_isRoom) := goodIn_app (goodIn_of _ (by decide +kernel)) ggX8_luck_X8_isRoom
set_option maxRecDepth 20000 in
theorem ggX8_luck_X8_in : GoodIn wsX8_luck wsX8_in := goodIn_r _ [17] (by decide +kernel) (by decide +kernel)
set_option maxRecDepth 20000 in
theorem gX8_luck_X8_in : GoodIn wsX8_luck (va_wsS RX8 59 yX8_in wsX8_in) := goodIn_app (goodIn_of _ (by decide +kernel)) ggX8_luck_X8_in
set_option maxRecDepth 20000 in
theorem ggX8_luck_X8_behind : GoodIn wsX8_luck wsX8_behind := goodIn_r _ [21, 7, 22, 8, 30, 31, 32, 33, 34, 35, 36, 37, 38, 39, 40, 41, 42, 43, 44, 45, 46, 47, 48, 49, 50, 51, 52, 53, 54, 55, 56] (by decide +kernel) (by decide +kernel)
set_option maxRecDepth 20000 in
theorem gX8_luck_X8_behind : GoodIn wsX8_luck (wsV RX8 163 RX8 yX8_behind wsX8_behind) := goodIn_app (goodIn_of _ (by decide +kernel)) ggX8_luck_X8_behind
set_option maxRecDepth 20000 in
theorem ggX8_luck_X8_partsOf : GoodIn wsX8_luck wsX8_partsOf := goodIn_r _ [26, 7, 22, 30, 31, 32, 33, 34, 35, 36, 37, 38, 39, 40, 41, 42, 43, 44, 45, 46, 47, 48, 49, 50, 51, 52, 53, 54, 55, 56] (by decide +kernel) (by decide +kernel)
set_option maxRecDepth 20000 in
theorem gX8_luck_X8_partsOf : GoodIn wsX8_luck (wsV RX8 189 RX8 yX8_partsOf wsX8_partsOf) := goodIn_app (goodIn_of _ (by decide +kernel)) ggX8_luck_X8_partsOf
set_option maxRecDepth 20000 in
theorem ggX8_luck_X8_part : GoodIn wsX8_luck wsX8_part := goodIn_r _ [29] (by decide +kernel) (by decide +kernel)
set_option maxRecDepth 20000 in
theorem gX8_luck_X8_part : GoodIn wsX8_luck (va_wsS RX8 193 yX8_part wsX8_part) := goodIn_app (goodIn_of _ (by decide +kernel)) ggX8_luck_X8_part
theorem dX8_luck_0 : decode cX8_luck 0 = .ok (.aload_n 0, 1) := by decide +kernel
theorem dX8_luck_1 : decode cX8_luck 1 = .ok (.iload_n 1, 1) := by decide +kernel
theorem dX8_luck_2 : decode cX8_luck 2 = .ok (.invokevirtual 120, 3) := by decide +kernel
theorem dX8_luck_5 : decode cX8_luck 5 = .ok (.ifCond .ne 7, 3) := by decide +kernel
theorem dX8_luck_8 : decode cX8_luck 8 = .ok (.ldc2_w 185, 3) := by decide +kernel
theorem dX8_luck_11 : decode cX8_luck 11 = .ok (.lreturn, 1) := by decide +kernel
theorem dX8_luck_12 : decode cX8_luck 12 = .ok (.iload_n 2, 1) := by decide +kernel
theorem dX8_luck_13 : decode cX8_luck 13 = .ok (.i2l, 1) := by decide +kernel
theorem dX8_luck_14 : decode cX8_luck 14 = .ok (.lconst 0, 1) := by decide +kernel
theorem dX8_luck_15 : decode cX8_luck 15 = .ok (.ldc2_w 137, 3) := by decide +kernel
theorem dX8_luck_18 : decode cX8_luck 18 = .ok (.invokestatic 59, 3) := by decide +kernel
theorem dX8_luck_21 : decode cX8_luck 21 = .ok (.ifCond .ne 7, 3) := by decide +kernel
theorem dX8_luck_24 : decode cX8_luck 24 = .ok (.ldc2_w 187, 3) := by decide +kernel
theorem dX8_luck_27 : decode cX8_luck 27 = .ok (.lreturn, 1) := by decide +kernel
theorem dX8_luck_28 : decode cX8_luck 28 = .ok (.iconst 0, 1) := by decide +kernel
theorem dX8_luck_29 : decode cX8_luck 29 = .ok (.istore 4, 2) := by decide +kernel
theorem dX8_luck_31 : decode cX8_luck 31 = .ok (.iload 4, 2) := by decide +kernel
theorem dX8_luck_33 : decode cX8_luck 33 = .ok (.bipush 124, 2) := by decide +kernel
theorem dX8_luck_35 : decode cX8_luck 35 = .ok (.if_icmp .ge 47, 3) := by decide +kernel
theorem dX8_luck_38 : decode cX8_luck 38 = .ok (.aload_n 0, 1) := by decide +kernel
theorem dX8_luck_39 : decode cX8_luck 39 = .ok (.getfield 43, 3) := by decide +kernel
theorem dX8_luck_42 : decode cX8_luck 42 = .ok (.iload 4, 2) := by decide +kernel
theorem dX8_luck_44 : decode cX8_luck 44 = .ok (.iload 4, 2) := by decide +kernel
theorem dX8_luck_46 : decode cX8_luck 46 = .ok (.iconst 4, 1) := by decide +kernel
theorem dX8_luck_47 : decode cX8_luck 47 = .ok (.aload_n 0, 1) := by decide +kernel
theorem dX8_luck_48 : decode cX8_luck 48 = .ok (.getfield 31, 3) := by decide +kernel
theorem dX8_luck_51 : decode cX8_luck 51 = .ok (.bipush 90, 2) := by decide +kernel
theorem dX8_luck_53 : decode cX8_luck 53 = .ok (.iload_n 1, 1) := by decide +kernel
theorem dX8_luck_54 : decode cX8_luck 54 = .ok (.iadd, 1) := by decide +kernel
theorem dX8_luck_55 : decode cX8_luck 55 = .ok (.iaload, 1) := by decide +kernel
theorem dX8_luck_56 : decode cX8_luck 56 = .ok (.imul, 1) := by decide +kernel
theorem dX8_luck_57 : decode cX8_luck 57 = .ok (.aload_n 0, 1) := by decide +kernel
theorem dX8_luck_58 : decode cX8_luck 58 = .ok (.getfield 31, 3) := by decide +kernel
theorem dX8_luck_61 : decode cX8_luck 61 = .ok (.bipush 93, 2) := by decide +kernel
theorem dX8_luck_63 : decode cX8_luck 63 = .ok (.iload_n 1, 1) := by decide +kernel
theorem dX8_luck_64 : decode cX8_luck 64 = .ok (.iadd, 1) := by decide +kernel
theorem dX8_luck_65 : decode cX8_luck 65 = .ok (.iaload, 1) := by decide +kernel
theorem dX8_luck_66 : decode cX8_luck 66 = .ok (.iadd, 1) := by decide +kernel
theorem dX8_luck_67 : decode cX8_luck 67 = .ok (.if_icmp .ne 7, 3) := by decide +kernel
theorem dX8_luck_70 : decode cX8_luck 70 = .ok (.lconst 1, 1) := by decide +kernel
theorem dX8_luck_71 : decode cX8_luck 71 = .ok (.goto 4, 3) := by decide +kernel
theorem dX8_luck_74 : decode cX8_luck 74 = .ok (.lconst 0, 1) := by decide +kernel
theorem dX8_luck_75 : decode cX8_luck 75 = .ok (.lastore, 1) := by decide +kernel
theorem dX8_luck_76 : decode cX8_luck 76 = .ok (.iinc 4 1, 3) := by decide +kernel
theorem dX8_luck_79 : decode cX8_luck 79 = .ok (.goto (-48), 3) := by decide +kernel
theorem dX8_luck_82 : decode cX8_luck 82 = .ok (.iconst 0, 1) := by decide +kernel
theorem dX8_luck_83 : decode cX8_luck 83 = .ok (.istore 4, 2) := by decide +kernel
theorem dX8_luck_85 : decode cX8_luck 85 = .ok (.iload 4, 2) := by decide +kernel
theorem dX8_luck_87 : decode cX8_luck 87 = .ok (.iload_n 2, 1) := by decide +kernel
theorem dX8_luck_88 : decode cX8_luck 88 = .ok (.if_icmp .ge 143, 3) := by decide +kernel
theorem dX8_luck_91 : decode cX8_luck 91 = .ok (.iconst 0, 1) := by decide +kernel
theorem dX8_luck_92 : decode cX8_luck 92 = .ok (.istore 5, 2) := by decide +kernel
theorem dX8_luck_94 : decode cX8_luck 94 = .ok (.iload 5, 2) := by decide +kernel
theorem dX8_luck_96 : decode cX8_luck 96 = .ok (.bipush 124, 2) := by decide +kernel
theorem dX8_luck_98 : decode cX8_luck 98 = .ok (.if_icmp .ge 17, 3) := by decide +kernel
theorem dX8_luck_101 : decode cX8_luck 101 = .ok (.aload_n 0, 1) := by decide +kernel
theorem dX8_luck_102 : decode cX8_luck 102 = .ok (.getfield 47, 3) := by decide +kernel
theorem dX8_luck_105 : decode cX8_luck 105 = .ok (.iload 5, 2) := by decide +kernel
theorem dX8_luck_107 : decode cX8_luck 107 = .ok (.lconst 0, 1) := by decide +kernel
theorem dX8_luck_108 : decode cX8_luck 108 = .ok (.lastore, 1) := by decide +kernel
theorem dX8_luck_109 : decode cX8_luck 109 = .ok (.iinc 5 1, 3) := by decide +kernel
theorem dX8_luck_112 : decode cX8_luck 112 = .ok (.goto (-18), 3) := by decide +kernel
theorem dX8_luck_115 : decode cX8_luck 115 = .ok (.iconst 0, 1) := by decide +kernel
theorem dX8_luck_116 : decode cX8_luck 116 = .ok (.istore 5, 2) := by decide +kernel
theorem dX8_luck_118 : decode cX8_luck 118 = .ok (.iload 5, 2) := by decide +kernel
theorem dX8_luck_120 : decode cX8_luck 120 = .ok (.bipush 124, 2) := by decide +kernel
theorem dX8_luck_122 : decode cX8_luck 122 = .ok (.if_icmp .ge 73, 3) := by decide +kernel
theorem dX8_luck_125 : decode cX8_luck 125 = .ok (.iconst 0, 1) := by decide +kernel
theorem dX8_luck_126 : decode cX8_luck 126 = .ok (.istore 6, 2) := by decide +kernel
theorem dX8_luck_128 : decode cX8_luck 128 = .ok (.iload 6, 2) := by decide +kernel
theorem dX8_luck_130 : decode cX8_luck 130 = .ok (.iconst 1, 1) := by decide +kernel
theorem dX8_luck_131 : decode cX8_luck 131 = .ok (.aload_n 0, 1) := by decide +kernel
theorem dX8_luck_132 : decode cX8_luck 132 = .ok (.getfield 111, 3) := by decide +kernel
theorem dX8_luck_135 : decode cX8_luck 135 = .ok (.ishl, 1) := by decide +kernel
theorem dX8_luck_136 : decode cX8_luck 136 = .ok (.if_icmp .ge 53, 3) := by decide +kernel
theorem dX8_luck_139 : decode cX8_luck 139 = .ok (.aload_n 0, 1) := by decide +kernel
theorem dX8_luck_140 : decode cX8_luck 140 = .ok (.getfield 43, 3) := by decide +kernel
theorem dX8_luck_143 : decode cX8_luck 143 = .ok (.iload 5, 2) := by decide +kernel
theorem dX8_luck_145 : decode cX8_luck 145 = .ok (.laload, 1) := by decide +kernel
theorem dX8_luck_146 : decode cX8_luck 146 = .ok (.lconst 0, 1) := by decide +kernel
theorem dX8_luck_147 : decode cX8_luck 147 = .ok (.lcmp, 1) := by decide +kernel
theorem dX8_luck_148 : decode cX8_luck 148 = .ok (.ifCond .le 41, 3) := by decide +kernel
theorem dX8_luck_151 : decode cX8_luck 151 = .ok (.aload_n 0, 1) := by decide +kernel
theorem dX8_luck_152 : decode cX8_luck 152 = .ok (.getfield 47, 3) := by decide +kernel
theorem dX8_luck_155 : decode cX8_luck 155 = .ok (.aload_n 0, 1) := by decide +kernel
theorem dX8_luck_156 : decode cX8_luck 156 = .ok (.iload_n 1, 1) := by decide +kernel
theorem dX8_luck_157 : decode cX8_luck 157 = .ok (.iload 5, 2) := by decide +kernel
theorem dX8_luck_159 : decode cX8_luck 159 = .ok (.iload 6, 2) := by decide +kernel
theorem dX8_luck_161 : decode cX8_luck 161 = .ok (.invokevirtual 163, 3) := by decide +kernel
theorem dX8_luck_164 : decode cX8_luck 164 = .ok (.dup2, 1) := by decide +kernel
theorem dX8_luck_165 : decode cX8_luck 165 = .ok (.laload, 1) := by decide +kernel
theorem dX8_luck_166 : decode cX8_luck 166 = .ok (.aload_n 0, 1) := by decide +kernel
theorem dX8_luck_167 : decode cX8_luck 167 = .ok (.getfield 43, 3) := by decide +kernel
theorem dX8_luck_170 : decode cX8_luck 170 = .ok (.iload 5, 2) := by decide +kernel
theorem dX8_luck_172 : decode cX8_luck 172 = .ok (.laload, 1) := by decide +kernel
theorem dX8_luck_173 : decode cX8_luck 173 = .ok (.aload_n 0, 1) := by decide +kernel
theorem dX8_luck_174 : decode cX8_luck 174 = .ok (.iload_n 1, 1) := by decide +kernel
theorem dX8_luck_175 : decode cX8_luck 175 = .ok (.iload 6, 2) := by decide +kernel
theorem dX8_luck_177 : decode cX8_luck 177 = .ok (.invokevirtual 189, 3) := by decide +kernel
theorem dX8_luck_180 : decode cX8_luck 180 = .ok (.lmul, 1) := by decide +kernel
theorem dX8_luck_181 : decode cX8_luck 181 = .ok (.ladd, 1) := by decide +kernel
theorem dX8_luck_182 : decode cX8_luck 182 = .ok (.lastore, 1) := by decide +kernel
theorem dX8_luck_183 : decode cX8_luck 183 = .ok (.iinc 6 1, 3) := by decide +kernel
theorem dX8_luck_186 : decode cX8_luck 186 = .ok (.goto (-58), 3) := by decide +kernel
theorem dX8_luck_189 : decode cX8_luck 189 = .ok (.iinc 5 1, 3) := by decide +kernel
theorem dX8_luck_192 : decode cX8_luck 192 = .ok (.goto (-74), 3) := by decide +kernel
theorem dX8_luck_195 : decode cX8_luck 195 = .ok (.iconst 0, 1) := by decide +kernel
theorem dX8_luck_196 : decode cX8_luck 196 = .ok (.istore 5, 2) := by decide +kernel
theorem dX8_luck_198 : decode cX8_luck 198 = .ok (.iload 5, 2) := by decide +kernel
theorem dX8_luck_200 : decode cX8_luck 200 = .ok (.bipush 124, 2) := by decide +kernel
theorem dX8_luck_202 : decode cX8_luck 202 = .ok (.if_icmp .ge 23, 3) := by decide +kernel
theorem dX8_luck_205 : decode cX8_luck 205 = .ok (.aload_n 0, 1) := by decide +kernel
theorem dX8_luck_206 : decode cX8_luck 206 = .ok (.getfield 43, 3) := by decide +kernel
theorem dX8_luck_209 : decode cX8_luck 209 = .ok (.iload 5, 2) := by decide +kernel
theorem dX8_luck_211 : decode cX8_luck 211 = .ok (.aload_n 0, 1) := by decide +kernel
theorem dX8_luck_212 : decode cX8_luck 212 = .ok (.getfield 47, 3) := by decide +kernel
theorem dX8_luck_215 : decode cX8_luck 215 = .ok (.iload 5, 2) := by decide +kernel
theorem dX8_luck_217 : decode cX8_luck 217 = .ok (.laload, 1) := by decide +kernel
theorem dX8_luck_218 : decode cX8_luck 218 = .ok (.lastore, 1) := by decide +kernel
theorem dX8_luck_219 : decode cX8_luck 219 = .ok (.iinc 5 1, 3) := by decide +kernel
theorem dX8_luck_222 : decode cX8_luck 222 = .ok (.goto (-24), 3) := by decide +kernel
theorem dX8_luck_225 : decode cX8_luck 225 = .ok (.iinc 4 1, 3) := by decide +kernel
theorem dX8_luck_228 : decode cX8_luck 228 = .ok (.goto (-143), 3) := by decide +kernel
theorem dX8_luck_231 : decode cX8_luck 231 = .ok (.lconst 0, 1) := by decide +kernel
theorem dX8_luck_232 : decode cX8_luck 232 = .ok (.lstore 4, 2) := by decide +kernel
theorem dX8_luck_234 : decode cX8_luck 234 = .ok (.lconst 0, 1) := by decide +kernel
theorem dX8_luck_235 : decode cX8_luck 235 = .ok (.lstore 6, 2) := by decide +kernel
theorem dX8_luck_237 : decode cX8_luck 237 = .ok (.iconst 0, 1) := by decide +kernel
theorem dX8_luck_238 : decode cX8_luck 238 = .ok (.istore 8, 2) := by decide +kernel
theorem dX8_luck_240 : decode cX8_luck 240 = .ok (.iload 8, 2) := by decide +kernel
theorem dX8_luck_242 : decode cX8_luck 242 = .ok (.bipush 124, 2) := by decide +kernel
theorem dX8_luck_244 : decode cX8_luck 244 = .ok (.if_icmp .ge 50, 3) := by decide +kernel
theorem dX8_luck_247 : decode cX8_luck 247 = .ok (.lload 6, 2) := by decide +kernel
theorem dX8_luck_249 : decode cX8_luck 249 = .ok (.aload_n 0, 1) := by decide +kernel
theorem dX8_luck_250 : decode cX8_luck 250 = .ok (.getfield 43, 3) := by decide +kernel
theorem dX8_luck_253 : decode cX8_luck 253 = .ok (.iload 8, 2) := by decide +kernel
theorem dX8_luck_255 : decode cX8_luck 255 = .ok (.laload, 1) := by decide +kernel
theorem dX8_luck_256 : decode cX8_luck 256 = .ok (.ladd, 1) := by decide +kernel
theorem dX8_luck_257 : decode cX8_luck 257 = .ok (.lstore 6, 2) := by decide +kernel
theorem dX8_luck_259 : decode cX8_luck 259 = .ok (.lload 4, 2) := by decide +kernel
theorem dX8_luck_261 : decode cX8_luck 261 = .ok (.iload 8, 2) := by decide +kernel
theorem dX8_luck_263 : decode cX8_luck 263 = .ok (.iconst 4, 1) := by decide +kernel
theorem dX8_luck_264 : decode cX8_luck 264 = .ok (.idiv, 1) := by decide +kernel
theorem dX8_luck_265 : decode cX8_luck 265 = .ok (.aload_n 0, 1) := by decide +kernel
theorem dX8_luck_266 : decode cX8_luck 266 = .ok (.getfield 19, 3) := by decide +kernel
theorem dX8_luck_269 : decode cX8_luck 269 = .ok (.iload_n 1, 1) := by decide +kernel
theorem dX8_luck_270 : decode cX8_luck 270 = .ok (.iaload, 1) := by decide +kernel
theorem dX8_luck_271 : decode cX8_luck 271 = .ok (.if_icmp .ne 13, 3) := by decide +kernel
theorem dX8_luck_274 : decode cX8_luck 274 = .ok (.aload_n 0, 1) := by decide +kernel
theorem dX8_luck_275 : decode cX8_luck 275 = .ok (.getfield 43, 3) := by decide +kernel
theorem dX8_luck_278 : decode cX8_luck 278 = .ok (.iload 8, 2) := by decide +kernel
theorem dX8_luck_280 : decode cX8_luck 280 = .ok (.laload, 1) := by decide +kernel
theorem dX8_luck_281 : decode cX8_luck 281 = .ok (.goto 4, 3) := by decide +kernel
theorem dX8_luck_284 : decode cX8_luck 284 = .ok (.lconst 0, 1) := by decide +kernel
theorem dX8_luck_285 : decode cX8_luck 285 = .ok (.ladd, 1) := by decide +kernel
theorem dX8_luck_286 : decode cX8_luck 286 = .ok (.lstore 4, 2) := by decide +kernel
theorem dX8_luck_288 : decode cX8_luck 288 = .ok (.iinc 8 1, 3) := by decide +kernel
theorem dX8_luck_291 : decode cX8_luck 291 = .ok (.goto (-51), 3) := by decide +kernel
theorem dX8_luck_294 : decode cX8_luck 294 = .ok (.lload 4, 2) := by decide +kernel
theorem dX8_luck_296 : decode cX8_luck 296 = .ok (.lload 6, 2) := by decide +kernel
theorem dX8_luck_298 : decode cX8_luck 298 = .ok (.iload_n 3, 1) := by decide +kernel
theorem dX8_luck_299 : decode cX8_luck 299 = .ok (.invokestatic 193, 3) := by decide +kernel
theorem dX8_luck_302 : decode cX8_luck 302 = .ok (.lreturn, 1) := by decide +kernel
theorem dX8_seed_0 : decode cX8_seed 0 = .ok (.aload_n 0, 1) := by decide +kernel
theorem dX8_seed_1 : decode cX8_seed 1 = .ok (.getfield 197, 3) := by decide +kernel
theorem dX8_seed_4 : decode cX8_seed 4 = .ok (.lstore_n 3, 1) := by decide +kernel
theorem dX8_seed_5 : decode cX8_seed 5 = .ok (.aload_n 0, 1) := by decide +kernel
theorem dX8_seed_6 : decode cX8_seed 6 = .ok (.lload_n 1, 1) := by decide +kernel
theorem dX8_seed_7 : decode cX8_seed 7 = .ok (.putfield 197, 3) := by decide +kernel
theorem dX8_seed_10 : decode cX8_seed 10 = .ok (.lload_n 3, 1) := by decide +kernel
theorem dX8_seed_11 : decode cX8_seed 11 = .ok (.lreturn, 1) := by decide +kernel
set_option maxRecDepth 20000 in
theorem ggX8_season_X8_isRoom : GoodIn wsX8_season wsX8_isRoom := goodIn_r _ [13, 14, 15, 16, 12, 17, 31, 32, 33, 34, 35, 36, 37, 38, 39, 40, 41, 42, 43, 44, 45, 46, 47, 48, 49, 50, 51, 52, 53, 54, 55, 56, 57] (by decide +kernel) (by decide +kernel)
set_option maxRecDepth 20000 in
theorem gX8_season_X8_isRoom : GoodIn wsX8_season (wsV RX8 120 RX8 yX8_isRoom wsX8_isRoom) := goodIn_app (goodIn_of _ (by decide +kernel)) ggX8_season_X8_isRoom
set_option maxRecDepth 20000 in
theorem ggX8_season_X8_in : GoodIn wsX8_season wsX8_in := goodIn_r _ [17] (by decide +kernel) (by decide +kernel)
set_option maxRecDepth 20000 in
theorem gX8_season_X8_in : GoodIn wsX8_season (va_wsS RX8 59 yX8_in wsX8_in) := goodIn_app (goodIn_of _ (by decide +kernel)) ggX8_season_X8_in
set_option maxRecDepth 20000 in
theorem ggX8_season_X8_dine : GoodIn wsX8_season wsX8_dine := goodIn_r _ [21, 3, 8, 2, 22, 23, 24, 12, 25, 26, 27, 28, 29, 30, 31, 32, 33, 34, 35, 36, 37, 38, 39, 40, 41, 42, 43, 44, 45, 46, 47, 48, 49, 50, 51, 52, 53, 54, 55, 56, 57] (by decide +kernel) (by decide +kernel)
set_option maxRecDepth 20000 in
theorem gX8_season_X8_dine : GoodIn wsX8_season (wsV RX8 152 RX8 yX8_dine wsX8_dine) := goodIn_app (goodIn_of _ (by decide +kernel)) ggX8_season_X8_dine
theorem dX8_season_0 : decode cX8_season 0 = .ok (.aload_n 0, 1) := by decide +kernel
theorem dX8_season_1 : decode cX8_season 1 = .ok (.iload_n 1, 1) := by decide +kernel
theorem dX8_season_2 : decode cX8_season 2 = .ok (.invokevirtual 120, 3) := by decide +kernel
theorem dX8_season_5 : decode cX8_season 5 = .ok (.ifCond .ne 5, 3) := by decide +kernel
theorem dX8_season_8 : decode cX8_season 8 = .ok (.iconst (-1), 1) := by decide +kernel
theorem dX8_season_9 : decode cX8_season 9 = .ok (.ireturn, 1) := by decide +kernel
theorem dX8_season_10 : decode cX8_season 10 = .ok (.iload_n 2, 1) := by decide +kernel
theorem dX8_season_11 : decode cX8_season 11 = .ok (.i2l, 1) := by decide +kernel
theorem dX8_season_12 : decode cX8_season 12 = .ok (.lconst 1, 1) := by decide +kernel
theorem dX8_season_13 : decode cX8_season 13 = .ok (.ldc2_w 201, 3) := by decide +kernel
theorem dX8_season_16 : decode cX8_season 16 = .ok (.invokestatic 59, 3) := by decide +kernel
theorem dX8_season_19 : decode cX8_season 19 = .ok (.ifCond .ne 6, 3) := by decide +kernel
theorem dX8_season_22 : decode cX8_season 22 = .ok (.bipush (-2), 2) := by decide +kernel
theorem dX8_season_24 : decode cX8_season 24 = .ok (.ireturn, 1) := by decide +kernel
theorem dX8_season_25 : decode cX8_season 25 = .ok (.iconst 0, 1) := by decide +kernel
theorem dX8_season_26 : decode cX8_season 26 = .ok (.istore_n 3, 1) := by decide +kernel
theorem dX8_season_27 : decode cX8_season 27 = .ok (.iload_n 3, 1) := by decide +kernel
theorem dX8_season_28 : decode cX8_season 28 = .ok (.bipush 97, 2) := by decide +kernel
theorem dX8_season_30 : decode cX8_season 30 = .ok (.if_icmp .ge 24, 3) := by decide +kernel
theorem dX8_season_33 : decode cX8_season 33 = .ok (.aload_n 0, 1) := by decide +kernel
theorem dX8_season_34 : decode cX8_season 34 = .ok (.getfield 31, 3) := by decide +kernel
theorem dX8_season_37 : decode cX8_season 37 = .ok (.bipush 97, 2) := by decide +kernel
theorem dX8_season_39 : decode cX8_season 39 = .ok (.iload_n 3, 1) := by decide +kernel
theorem dX8_season_40 : decode cX8_season 40 = .ok (.iadd, 1) := by decide +kernel
theorem dX8_season_41 : decode cX8_season 41 = .ok (.aload_n 0, 1) := by decide +kernel
theorem dX8_season_42 : decode cX8_season 42 = .ok (.getfield 31, 3) := by decide +kernel
theorem dX8_season_45 : decode cX8_season 45 = .ok (.iload_n 3, 1) := by decide +kernel
theorem dX8_season_46 : decode cX8_season 46 = .ok (.iaload, 1) := by decide +kernel
theorem dX8_season_47 : decode cX8_season 47 = .ok (.iastore, 1) := by decide +kernel
theorem dX8_season_48 : decode cX8_season 48 = .ok (.iinc 3 1, 3) := by decide +kernel
theorem dX8_season_51 : decode cX8_season 51 = .ok (.goto (-24), 3) := by decide +kernel
theorem dX8_season_54 : decode cX8_season 54 = .ok (.iconst 0, 1) := by decide +kernel
theorem dX8_season_55 : decode cX8_season 55 = .ok (.istore_n 3, 1) := by decide +kernel
theorem dX8_season_56 : decode cX8_season 56 = .ok (.iload_n 3, 1) := by decide +kernel
theorem dX8_season_57 : decode cX8_season 57 = .ok (.iload_n 2, 1) := by decide +kernel
theorem dX8_season_58 : decode cX8_season 58 = .ok (.if_icmp .ge 95, 3) := by decide +kernel
theorem dX8_season_61 : decode cX8_season 61 = .ok (.iconst 0, 1) := by decide +kernel
theorem dX8_season_62 : decode cX8_season 62 = .ok (.istore 4, 2) := by decide +kernel
theorem dX8_season_64 : decode cX8_season 64 = .ok (.iconst 0, 1) := by decide +kernel
theorem dX8_season_65 : decode cX8_season 65 = .ok (.istore 5, 2) := by decide +kernel
theorem dX8_season_67 : decode cX8_season 67 = .ok (.iload 5, 2) := by decide +kernel
theorem dX8_season_69 : decode cX8_season 69 = .ok (.aload_n 0, 1) := by decide +kernel
theorem dX8_season_70 : decode cX8_season 70 = .ok (.getfield 111, 3) := by decide +kernel
theorem dX8_season_73 : decode cX8_season 73 = .ok (.if_icmp .ge 65, 3) := by decide +kernel
theorem dX8_season_76 : decode cX8_season 76 = .ok (.aload_n 0, 1) := by decide +kernel
theorem dX8_season_77 : decode cX8_season 77 = .ok (.aload_n 0, 1) := by decide +kernel
theorem dX8_season_78 : decode cX8_season 78 = .ok (.getfield 197, 3) := by decide +kernel
theorem dX8_season_81 : decode cX8_season 81 = .ok (.ldc2_w 203, 3) := by decide +kernel
theorem dX8_season_84 : decode cX8_season 84 = .ok (.lmul, 1) := by decide +kernel
theorem dX8_season_85 : decode cX8_season 85 = .ok (.ldc2_w 205, 3) := by decide +kernel
theorem dX8_season_88 : decode cX8_season 88 = .ok (.ladd, 1) := by decide +kernel
theorem dX8_season_89 : decode cX8_season 89 = .ok (.putfield 197, 3) := by decide +kernel
theorem dX8_season_92 : decode cX8_season 92 = .ok (.iload 4, 2) := by decide +kernel
theorem dX8_season_94 : decode cX8_season 94 = .ok (.aload_n 0, 1) := by decide +kernel
theorem dX8_season_95 : decode cX8_season 95 = .ok (.getfield 197, 3) := by decide +kernel
theorem dX8_season_98 : decode cX8_season 98 = .ok (.bipush 33, 2) := by decide +kernel
theorem dX8_season_100 : decode cX8_season 100 = .ok (.lushr, 1) := by decide +kernel
theorem dX8_season_101 : decode cX8_season 101 = .ok (.ldc2_w 207, 3) := by decide +kernel
theorem dX8_season_104 : decode cX8_season 104 = .ok (.lrem, 1) := by decide +kernel
theorem dX8_season_105 : decode cX8_season 105 = .ok (.aload_n 0, 1) := by decide +kernel
theorem dX8_season_106 : decode cX8_season 106 = .ok (.getfield 22, 3) := by decide +kernel
theorem dX8_season_109 : decode cX8_season 109 = .ok (.iconst 4, 1) := by decide +kernel
theorem dX8_season_110 : decode cX8_season 110 = .ok (.iload 5, 2) := by decide +kernel
theorem dX8_season_112 : decode cX8_season 112 = .ok (.imul, 1) := by decide +kernel
theorem dX8_season_113 : decode cX8_season 113 = .ok (.iconst 3, 1) := by decide +kernel
theorem dX8_season_114 : decode cX8_season 114 = .ok (.iadd, 1) := by decide +kernel
theorem dX8_season_115 : decode cX8_season 115 = .ok (.iaload, 1) := by decide +kernel
theorem dX8_season_116 : decode cX8_season 116 = .ok (.i2l, 1) := by decide +kernel
theorem dX8_season_117 : decode cX8_season 117 = .ok (.lcmp, 1) := by decide +kernel
theorem dX8_season_118 : decode cX8_season 118 = .ok (.ifCond .ge 10, 3) := by decide +kernel
theorem dX8_season_121 : decode cX8_season 121 = .ok (.iconst 1, 1) := by decide +kernel
theorem dX8_season_122 : decode cX8_season 122 = .ok (.iload 5, 2) := by decide +kernel
theorem dX8_season_124 : decode cX8_season 124 = .ok (.ishl, 1) := by decide +kernel
theorem dX8_season_125 : decode cX8_season 125 = .ok (.goto 4, 3) := by decide +kernel
theorem dX8_season_128 : decode cX8_season 128 = .ok (.iconst 0, 1) := by decide +kernel
theorem dX8_season_129 : decode cX8_season 129 = .ok (.ior, 1) := by decide +kernel
theorem dX8_season_130 : decode cX8_season 130 = .ok (.istore 4, 2) := by decide +kernel
theorem dX8_season_132 : decode cX8_season 132 = .ok (.iinc 5 1, 3) := by decide +kernel
theorem dX8_season_135 : decode cX8_season 135 = .ok (.goto (-68), 3) := by decide +kernel
theorem dX8_season_138 : decode cX8_season 138 = .ok (.aload_n 0, 1) := by decide +kernel
theorem dX8_season_139 : decode cX8_season 139 = .ok (.iconst 1, 1) := by decide +kernel
theorem dX8_season_140 : decode cX8_season 140 = .ok (.iload 4, 2) := by decide +kernel
theorem dX8_season_142 : decode cX8_season 142 = .ok (.iconst 0, 1) := by decide +kernel
theorem dX8_season_143 : decode cX8_season 143 = .ok (.invokevirtual 152, 3) := by decide +kernel
theorem dX8_season_146 : decode cX8_season 146 = .ok (.pop, 1) := by decide +kernel
theorem dX8_season_147 : decode cX8_season 147 = .ok (.iinc 3 1, 3) := by decide +kernel
theorem dX8_season_150 : decode cX8_season 150 = .ok (.goto (-94), 3) := by decide +kernel
theorem dX8_season_153 : decode cX8_season 153 = .ok (.aload_n 0, 1) := by decide +kernel
theorem dX8_season_154 : decode cX8_season 154 = .ok (.getfield 31, 3) := by decide +kernel
theorem dX8_season_157 : decode cX8_season 157 = .ok (.sipush 187, 3) := by decide +kernel
theorem dX8_season_160 : decode cX8_season 160 = .ok (.iload_n 1, 1) := by decide +kernel
theorem dX8_season_161 : decode cX8_season 161 = .ok (.iadd, 1) := by decide +kernel
theorem dX8_season_162 : decode cX8_season 162 = .ok (.iaload, 1) := by decide +kernel
theorem dX8_season_163 : decode cX8_season 163 = .ok (.ireturn, 1) := by decide +kernel
set_option maxRecDepth 20000 in
theorem ggX8_keep_X8_in : GoodIn wsX8_keep wsX8_in := goodIn_r _ [7] (by decide +kernel) (by decide +kernel)
set_option maxRecDepth 20000 in
theorem gX8_keep_X8_in : GoodIn wsX8_keep (va_wsS RX8 59 yX8_in wsX8_in) := goodIn_app (goodIn_of _ (by decide +kernel)) ggX8_keep_X8_in
theorem dX8_keep_0 : decode cX8_keep 0 = .ok (.iload_n 1, 1) := by decide +kernel
theorem dX8_keep_1 : decode cX8_keep 1 = .ok (.i2l, 1) := by decide +kernel
theorem dX8_keep_2 : decode cX8_keep 2 = .ok (.lconst 0, 1) := by decide +kernel
theorem dX8_keep_3 : decode cX8_keep 3 = .ok (.lconst 1, 1) := by decide +kernel
theorem dX8_keep_4 : decode cX8_keep 4 = .ok (.invokestatic 59, 3) := by decide +kernel
theorem dX8_keep_7 : decode cX8_keep 7 = .ok (.ifCond .ne 5, 3) := by decide +kernel
theorem dX8_keep_10 : decode cX8_keep 10 = .ok (.iconst (-1), 1) := by decide +kernel
theorem dX8_keep_11 : decode cX8_keep 11 = .ok (.ireturn, 1) := by decide +kernel
theorem dX8_keep_12 : decode cX8_keep 12 = .ok (.aload_n 0, 1) := by decide +kernel
theorem dX8_keep_13 : decode cX8_keep 13 = .ok (.getfield 50, 3) := by decide +kernel
theorem dX8_keep_16 : decode cX8_keep 16 = .ok (.iload_n 1, 1) := by decide +kernel
theorem dX8_keep_17 : decode cX8_keep 17 = .ok (.iconst 1, 1) := by decide +kernel
theorem dX8_keep_18 : decode cX8_keep 18 = .ok (.bastore, 1) := by decide +kernel
theorem dX8_keep_19 : decode cX8_keep 19 = .ok (.iconst 0, 1) := by decide +kernel
theorem dX8_keep_20 : decode cX8_keep 20 = .ok (.istore_n 2, 1) := by decide +kernel
theorem dX8_keep_21 : decode cX8_keep 21 = .ok (.iload_n 2, 1) := by decide +kernel
theorem dX8_keep_22 : decode cX8_keep 22 = .ok (.bipush 97, 2) := by decide +kernel
theorem dX8_keep_24 : decode cX8_keep 24 = .ok (.if_icmp .ge 26, 3) := by decide +kernel
theorem dX8_keep_27 : decode cX8_keep 27 = .ok (.aload_n 0, 1) := by decide +kernel
theorem dX8_keep_28 : decode cX8_keep 28 = .ok (.getfield 54, 3) := by decide +kernel
theorem dX8_keep_31 : decode cX8_keep 31 = .ok (.bipush 97, 2) := by decide +kernel
theorem dX8_keep_33 : decode cX8_keep 33 = .ok (.iload_n 1, 1) := by decide +kernel
theorem dX8_keep_34 : decode cX8_keep 34 = .ok (.imul, 1) := by decide +kernel
theorem dX8_keep_35 : decode cX8_keep 35 = .ok (.iload_n 2, 1) := by decide +kernel
theorem dX8_keep_36 : decode cX8_keep 36 = .ok (.iadd, 1) := by decide +kernel
theorem dX8_keep_37 : decode cX8_keep 37 = .ok (.aload_n 0, 1) := by decide +kernel
theorem dX8_keep_38 : decode cX8_keep 38 = .ok (.getfield 31, 3) := by decide +kernel
theorem dX8_keep_41 : decode cX8_keep 41 = .ok (.iload_n 2, 1) := by decide +kernel
theorem dX8_keep_42 : decode cX8_keep 42 = .ok (.iaload, 1) := by decide +kernel
theorem dX8_keep_43 : decode cX8_keep 43 = .ok (.iastore, 1) := by decide +kernel
theorem dX8_keep_44 : decode cX8_keep 44 = .ok (.iinc 2 1, 3) := by decide +kernel
theorem dX8_keep_47 : decode cX8_keep 47 = .ok (.goto (-26), 3) := by decide +kernel
theorem dX8_keep_50 : decode cX8_keep 50 = .ok (.aload_n 0, 1) := by decide +kernel
theorem dX8_keep_51 : decode cX8_keep 51 = .ok (.getfield 31, 3) := by decide +kernel
theorem dX8_keep_54 : decode cX8_keep 54 = .ok (.bipush 96, 2) := by decide +kernel
theorem dX8_keep_56 : decode cX8_keep 56 = .ok (.iaload, 1) := by decide +kernel
theorem dX8_keep_57 : decode cX8_keep 57 = .ok (.ireturn, 1) := by decide +kernel
set_option maxRecDepth 20000 in
theorem ggX8_again_X8_in : GoodIn wsX8_again wsX8_in := goodIn_r _ [8] (by decide +kernel) (by decide +kernel)
set_option maxRecDepth 20000 in
theorem gX8_again_X8_in : GoodIn wsX8_again (va_wsS RX8 59 yX8_in wsX8_in) := goodIn_app (goodIn_of _ (by decide +kernel)) ggX8_again_X8_in
theorem dX8_again_0 : decode cX8_again 0 = .ok (.iload_n 1, 1) := by decide +kernel
theorem dX8_again_1 : decode cX8_again 1 = .ok (.i2l, 1) := by decide +kernel
theorem dX8_again_2 : decode cX8_again 2 = .ok (.lconst 0, 1) := by decide +kernel
theorem dX8_again_3 : decode cX8_again 3 = .ok (.lconst 1, 1) := by decide +kernel
theorem dX8_again_4 : decode cX8_again 4 = .ok (.invokestatic 59, 3) := by decide +kernel
theorem dX8_again_7 : decode cX8_again 7 = .ok (.ifCond .ne 5, 3) := by decide +kernel
theorem dX8_again_10 : decode cX8_again 10 = .ok (.iconst (-1), 1) := by decide +kernel
theorem dX8_again_11 : decode cX8_again 11 = .ok (.ireturn, 1) := by decide +kernel
theorem dX8_again_12 : decode cX8_again 12 = .ok (.aload_n 0, 1) := by decide +kernel
theorem dX8_again_13 : decode cX8_again 13 = .ok (.getfield 50, 3) := by decide +kernel
theorem dX8_again_16 : decode cX8_again 16 = .ok (.iload_n 1, 1) := by decide +kernel
theorem dX8_again_17 : decode cX8_again 17 = .ok (.baload, 1) := by decide +kernel
theorem dX8_again_18 : decode cX8_again 18 = .ok (.ifCond .ne 6, 3) := by decide +kernel
theorem dX8_again_21 : decode cX8_again 21 = .ok (.bipush (-3), 2) := by decide +kernel
theorem dX8_again_23 : decode cX8_again 23 = .ok (.ireturn, 1) := by decide +kernel
theorem dX8_again_24 : decode cX8_again 24 = .ok (.iconst 0, 1) := by decide +kernel
theorem dX8_again_25 : decode cX8_again 25 = .ok (.istore_n 2, 1) := by decide +kernel
theorem dX8_again_26 : decode cX8_again 26 = .ok (.iload_n 2, 1) := by decide +kernel
theorem dX8_again_27 : decode cX8_again 27 = .ok (.bipush 97, 2) := by decide +kernel
theorem dX8_again_29 : decode cX8_again 29 = .ok (.if_icmp .ge 26, 3) := by decide +kernel
theorem dX8_again_32 : decode cX8_again 32 = .ok (.aload_n 0, 1) := by decide +kernel
theorem dX8_again_33 : decode cX8_again 33 = .ok (.getfield 31, 3) := by decide +kernel
theorem dX8_again_36 : decode cX8_again 36 = .ok (.iload_n 2, 1) := by decide +kernel
theorem dX8_again_37 : decode cX8_again 37 = .ok (.aload_n 0, 1) := by decide +kernel
theorem dX8_again_38 : decode cX8_again 38 = .ok (.getfield 54, 3) := by decide +kernel
theorem dX8_again_41 : decode cX8_again 41 = .ok (.bipush 97, 2) := by decide +kernel
theorem dX8_again_43 : decode cX8_again 43 = .ok (.iload_n 1, 1) := by decide +kernel
theorem dX8_again_44 : decode cX8_again 44 = .ok (.imul, 1) := by decide +kernel
theorem dX8_again_45 : decode cX8_again 45 = .ok (.iload_n 2, 1) := by decide +kernel
theorem dX8_again_46 : decode cX8_again 46 = .ok (.iadd, 1) := by decide +kernel
theorem dX8_again_47 : decode cX8_again 47 = .ok (.iaload, 1) := by decide +kernel
theorem dX8_again_48 : decode cX8_again 48 = .ok (.iastore, 1) := by decide +kernel
theorem dX8_again_49 : decode cX8_again 49 = .ok (.iinc 2 1, 3) := by decide +kernel
theorem dX8_again_52 : decode cX8_again 52 = .ok (.goto (-26), 3) := by decide +kernel
theorem dX8_again_55 : decode cX8_again 55 = .ok (.aload_n 0, 1) := by decide +kernel
theorem dX8_again_56 : decode cX8_again 56 = .ok (.iconst 0, 1) := by decide +kernel
theorem dX8_again_57 : decode cX8_again 57 = .ok (.putfield 117, 3) := by decide +kernel
theorem dX8_again_60 : decode cX8_again 60 = .ok (.aload_n 0, 1) := by decide +kernel
theorem dX8_again_61 : decode cX8_again 61 = .ok (.getfield 31, 3) := by decide +kernel
theorem dX8_again_64 : decode cX8_again 64 = .ok (.bipush 96, 2) := by decide +kernel
theorem dX8_again_66 : decode cX8_again 66 = .ok (.iaload, 1) := by decide +kernel
theorem dX8_again_67 : decode cX8_again 67 = .ok (.ireturn, 1) := by decide +kernel
set_option maxRecDepth 20000 in
theorem ggX8_count_X8_isDone : GoodIn wsX8_count wsX8_isDone := goodIn_r _ [11, 4, 12, 18, 19, 20, 21, 22, 23, 24, 25, 26, 27, 28, 29, 30, 31, 32, 33, 34, 35, 36, 37, 38, 39, 40, 41, 42, 43, 44] (by decide +kernel) (by decide +kernel)
set_option maxRecDepth 20000 in
theorem gX8_count_X8_isDone : GoodIn wsX8_count (wsV RX8 124 RX8 yX8_isDone wsX8_isDone) := goodIn_app (goodIn_of _ (by decide +kernel)) ggX8_count_X8_isDone
set_option maxRecDepth 20000 in
theorem ggX8_count_X8_toldMany : GoodIn wsX8_count wsX8_toldMany := goodIn_r _ [16, 17, 18, 19, 20, 21, 22, 23, 24, 25, 26, 27, 28, 29, 30, 31, 32, 33, 34, 35, 36, 37, 38, 39, 40, 41, 42, 43, 44] (by decide +kernel) (by decide +kernel)
set_option maxRecDepth 20000 in
theorem gX8_count_X8_toldMany : GoodIn wsX8_count (wsV RX8 177 RX8 yX8_toldMany wsX8_toldMany) := goodIn_app (goodIn_of _ (by decide +kernel)) ggX8_count_X8_toldMany
theorem dX8_count_0 : decode cX8_count 0 = .ok (.iconst 0, 1) := by decide +kernel
theorem dX8_count_1 : decode cX8_count 1 = .ok (.istore_n 2, 1) := by decide +kernel
theorem dX8_count_2 : decode cX8_count 2 = .ok (.iconst 0, 1) := by decide +kernel
theorem dX8_count_3 : decode cX8_count 3 = .ok (.istore_n 3, 1) := by decide +kernel
theorem dX8_count_4 : decode cX8_count 4 = .ok (.iload_n 3, 1) := by decide +kernel
theorem dX8_count_5 : decode cX8_count 5 = .ok (.aload_n 0, 1) := by decide +kernel
theorem dX8_count_6 : decode cX8_count 6 = .ok (.getfield 108, 3) := by decide +kernel
theorem dX8_count_9 : decode cX8_count 9 = .ok (.if_icmp .ge 28, 3) := by decide +kernel
theorem dX8_count_12 : decode cX8_count 12 = .ok (.iload_n 2, 1) := by decide +kernel
theorem dX8_count_13 : decode cX8_count 13 = .ok (.aload_n 0, 1) := by decide +kernel
theorem dX8_count_14 : decode cX8_count 14 = .ok (.iconst 0, 1) := by decide +kernel
theorem dX8_count_15 : decode cX8_count 15 = .ok (.iload_n 3, 1) := by decide +kernel
theorem dX8_count_16 : decode cX8_count 16 = .ok (.invokevirtual 124, 3) := by decide +kernel
theorem dX8_count_19 : decode cX8_count 19 = .ok (.ifCond .eq 9, 3) := by decide +kernel
theorem dX8_count_22 : decode cX8_count 22 = .ok (.iconst 1, 1) := by decide +kernel
theorem dX8_count_23 : decode cX8_count 23 = .ok (.iload_n 3, 1) := by decide +kernel
theorem dX8_count_24 : decode cX8_count 24 = .ok (.ishl, 1) := by decide +kernel
theorem dX8_count_25 : decode cX8_count 25 = .ok (.goto 4, 3) := by decide +kernel
theorem dX8_count_28 : decode cX8_count 28 = .ok (.iconst 0, 1) := by decide +kernel
theorem dX8_count_29 : decode cX8_count 29 = .ok (.ior, 1) := by decide +kernel
theorem dX8_count_30 : decode cX8_count 30 = .ok (.istore_n 2, 1) := by decide +kernel
theorem dX8_count_31 : decode cX8_count 31 = .ok (.iinc 3 1, 3) := by decide +kernel
theorem dX8_count_34 : decode cX8_count 34 = .ok (.goto (-30), 3) := by decide +kernel
theorem dX8_count_37 : decode cX8_count 37 = .ok (.iload_n 1, 1) := by decide +kernel
theorem dX8_count_38 : decode cX8_count 38 = .ok (.tableswitch 114 0 8 #[50, 55, 60, 65, 73, 75, 99, 104, 109], 50) := by decide +kernel
theorem dX8_count_88 : decode cX8_count 88 = .ok (.aload_n 0, 1) := by decide +kernel
theorem dX8_count_89 : decode cX8_count 89 = .ok (.getfield 63, 3) := by decide +kernel
theorem dX8_count_92 : decode cX8_count 92 = .ok (.ireturn, 1) := by decide +kernel
theorem dX8_count_93 : decode cX8_count 93 = .ok (.aload_n 0, 1) := by decide +kernel
theorem dX8_count_94 : decode cX8_count 94 = .ok (.getfield 108, 3) := by decide +kernel
theorem dX8_count_97 : decode cX8_count 97 = .ok (.ireturn, 1) := by decide +kernel
theorem dX8_count_98 : decode cX8_count 98 = .ok (.aload_n 0, 1) := by decide +kernel
theorem dX8_count_99 : decode cX8_count 99 = .ok (.getfield 111, 3) := by decide +kernel
theorem dX8_count_102 : decode cX8_count 102 = .ok (.ireturn, 1) := by decide +kernel
theorem dX8_count_103 : decode cX8_count 103 = .ok (.aload_n 0, 1) := by decide +kernel
theorem dX8_count_104 : decode cX8_count 104 = .ok (.getfield 31, 3) := by decide +kernel
theorem dX8_count_107 : decode cX8_count 107 = .ok (.bipush 96, 2) := by decide +kernel
theorem dX8_count_109 : decode cX8_count 109 = .ok (.iaload, 1) := by decide +kernel
theorem dX8_count_110 : decode cX8_count 110 = .ok (.ireturn, 1) := by decide +kernel
theorem dX8_count_111 : decode cX8_count 111 = .ok (.iload_n 2, 1) := by decide +kernel
theorem dX8_count_112 : decode cX8_count 112 = .ok (.ireturn, 1) := by decide +kernel
theorem dX8_count_113 : decode cX8_count 113 = .ok (.aload_n 0, 1) := by decide +kernel
theorem dX8_count_114 : decode cX8_count 114 = .ok (.getfield 31, 3) := by decide +kernel
theorem dX8_count_117 : decode cX8_count 117 = .ok (.bipush 90, 2) := by decide +kernel
theorem dX8_count_119 : decode cX8_count 119 = .ok (.iaload, 1) := by decide +kernel
theorem dX8_count_120 : decode cX8_count 120 = .ok (.aload_n 0, 1) := by decide +kernel
theorem dX8_count_121 : decode cX8_count 121 = .ok (.getfield 31, 3) := by decide +kernel
theorem dX8_count_124 : decode cX8_count 124 = .ok (.bipush 91, 2) := by decide +kernel
theorem dX8_count_126 : decode cX8_count 126 = .ok (.iaload, 1) := by decide +kernel
theorem dX8_count_127 : decode cX8_count 127 = .ok (.iadd, 1) := by decide +kernel
theorem dX8_count_128 : decode cX8_count 128 = .ok (.aload_n 0, 1) := by decide +kernel
theorem dX8_count_129 : decode cX8_count 129 = .ok (.getfield 31, 3) := by decide +kernel
theorem dX8_count_132 : decode cX8_count 132 = .ok (.bipush 92, 2) := by decide +kernel
theorem dX8_count_134 : decode cX8_count 134 = .ok (.iaload, 1) := by decide +kernel
theorem dX8_count_135 : decode cX8_count 135 = .ok (.iadd, 1) := by decide +kernel
theorem dX8_count_136 : decode cX8_count 136 = .ok (.ireturn, 1) := by decide +kernel
theorem dX8_count_137 : decode cX8_count 137 = .ok (.aload_n 0, 1) := by decide +kernel
theorem dX8_count_138 : decode cX8_count 138 = .ok (.getfield 117, 3) := by decide +kernel
theorem dX8_count_141 : decode cX8_count 141 = .ok (.ireturn, 1) := by decide +kernel
theorem dX8_count_142 : decode cX8_count 142 = .ok (.aload_n 0, 1) := by decide +kernel
theorem dX8_count_143 : decode cX8_count 143 = .ok (.invokevirtual 177, 3) := by decide +kernel
theorem dX8_count_146 : decode cX8_count 146 = .ok (.ireturn, 1) := by decide +kernel
theorem dX8_count_147 : decode cX8_count 147 = .ok (.aload_n 0, 1) := by decide +kernel
theorem dX8_count_148 : decode cX8_count 148 = .ok (.getfield 114, 3) := by decide +kernel
theorem dX8_count_151 : decode cX8_count 151 = .ok (.ireturn, 1) := by decide +kernel
theorem dX8_count_152 : decode cX8_count 152 = .ok (.bipush (-2), 2) := by decide +kernel
theorem dX8_count_154 : decode cX8_count 154 = .ok (.ireturn, 1) := by decide +kernel
theorem dJ6_bitCount_0f7a4_0 : decode cJ6_bitCount_0f7a4 0 = .ok (.iload_n 0, 1) := by decide +kernel
theorem dJ6_bitCount_0f7a4_1 : decode cJ6_bitCount_0f7a4 1 = .ok (.iload_n 0, 1) := by decide +kernel
theorem dJ6_bitCount_0f7a4_2 : decode cJ6_bitCount_0f7a4 2 = .ok (.iconst 1, 1) := by decide +kernel
theorem dJ6_bitCount_0f7a4_3 : decode cJ6_bitCount_0f7a4 3 = .ok (.iushr, 1) := by decide +kernel
theorem dJ6_bitCount_0f7a4_4 : decode cJ6_bitCount_0f7a4 4 = .ok (.ldc_w 265, 3) := by decide +kernel
theorem dJ6_bitCount_0f7a4_7 : decode cJ6_bitCount_0f7a4 7 = .ok (.iand, 1) := by decide +kernel
theorem dJ6_bitCount_0f7a4_8 : decode cJ6_bitCount_0f7a4 8 = .ok (.isub, 1) := by decide +kernel
theorem dJ6_bitCount_0f7a4_9 : decode cJ6_bitCount_0f7a4 9 = .ok (.istore_n 0, 1) := by decide +kernel
theorem dJ6_bitCount_0f7a4_10 : decode cJ6_bitCount_0f7a4 10 = .ok (.iload_n 0, 1) := by decide +kernel
theorem dJ6_bitCount_0f7a4_11 : decode cJ6_bitCount_0f7a4 11 = .ok (.ldc_w 266, 3) := by decide +kernel
theorem dJ6_bitCount_0f7a4_14 : decode cJ6_bitCount_0f7a4 14 = .ok (.iand, 1) := by decide +kernel
theorem dJ6_bitCount_0f7a4_15 : decode cJ6_bitCount_0f7a4 15 = .ok (.iload_n 0, 1) := by decide +kernel
theorem dJ6_bitCount_0f7a4_16 : decode cJ6_bitCount_0f7a4 16 = .ok (.iconst 2, 1) := by decide +kernel
theorem dJ6_bitCount_0f7a4_17 : decode cJ6_bitCount_0f7a4 17 = .ok (.iushr, 1) := by decide +kernel
theorem dJ6_bitCount_0f7a4_18 : decode cJ6_bitCount_0f7a4 18 = .ok (.ldc_w 266, 3) := by decide +kernel
theorem dJ6_bitCount_0f7a4_21 : decode cJ6_bitCount_0f7a4 21 = .ok (.iand, 1) := by decide +kernel
theorem dJ6_bitCount_0f7a4_22 : decode cJ6_bitCount_0f7a4 22 = .ok (.iadd, 1) := by decide +kernel
theorem dJ6_bitCount_0f7a4_23 : decode cJ6_bitCount_0f7a4 23 = .ok (.istore_n 0, 1) := by decide +kernel
theorem dJ6_bitCount_0f7a4_24 : decode cJ6_bitCount_0f7a4 24 = .ok (.iload_n 0, 1) := by decide +kernel
theorem dJ6_bitCount_0f7a4_25 : decode cJ6_bitCount_0f7a4 25 = .ok (.iload_n 0, 1) := by decide +kernel
theorem dJ6_bitCount_0f7a4_26 : decode cJ6_bitCount_0f7a4 26 = .ok (.iconst 4, 1) := by decide +kernel
theorem dJ6_bitCount_0f7a4_27 : decode cJ6_bitCount_0f7a4 27 = .ok (.iushr, 1) := by decide +kernel
theorem dJ6_bitCount_0f7a4_28 : decode cJ6_bitCount_0f7a4 28 = .ok (.iadd, 1) := by decide +kernel
theorem dJ6_bitCount_0f7a4_29 : decode cJ6_bitCount_0f7a4 29 = .ok (.ldc_w 267, 3) := by decide +kernel
theorem dJ6_bitCount_0f7a4_32 : decode cJ6_bitCount_0f7a4 32 = .ok (.iand, 1) := by decide +kernel
theorem dJ6_bitCount_0f7a4_33 : decode cJ6_bitCount_0f7a4 33 = .ok (.istore_n 0, 1) := by decide +kernel
theorem dJ6_bitCount_0f7a4_34 : decode cJ6_bitCount_0f7a4 34 = .ok (.iload_n 0, 1) := by decide +kernel
theorem dJ6_bitCount_0f7a4_35 : decode cJ6_bitCount_0f7a4 35 = .ok (.iload_n 0, 1) := by decide +kernel
theorem dJ6_bitCount_0f7a4_36 : decode cJ6_bitCount_0f7a4 36 = .ok (.bipush 8, 2) := by decide +kernel
theorem dJ6_bitCount_0f7a4_38 : decode cJ6_bitCount_0f7a4 38 = .ok (.iushr, 1) := by decide +kernel
theorem dJ6_bitCount_0f7a4_39 : decode cJ6_bitCount_0f7a4 39 = .ok (.iadd, 1) := by decide +kernel
theorem dJ6_bitCount_0f7a4_40 : decode cJ6_bitCount_0f7a4 40 = .ok (.istore_n 0, 1) := by decide +kernel
theorem dJ6_bitCount_0f7a4_41 : decode cJ6_bitCount_0f7a4 41 = .ok (.iload_n 0, 1) := by decide +kernel
theorem dJ6_bitCount_0f7a4_42 : decode cJ6_bitCount_0f7a4 42 = .ok (.iload_n 0, 1) := by decide +kernel
theorem dJ6_bitCount_0f7a4_43 : decode cJ6_bitCount_0f7a4 43 = .ok (.bipush 16, 2) := by decide +kernel
theorem dJ6_bitCount_0f7a4_45 : decode cJ6_bitCount_0f7a4 45 = .ok (.iushr, 1) := by decide +kernel
theorem dJ6_bitCount_0f7a4_46 : decode cJ6_bitCount_0f7a4 46 = .ok (.iadd, 1) := by decide +kernel
theorem dJ6_bitCount_0f7a4_47 : decode cJ6_bitCount_0f7a4 47 = .ok (.istore_n 0, 1) := by decide +kernel
theorem dJ6_bitCount_0f7a4_48 : decode cJ6_bitCount_0f7a4 48 = .ok (.iload_n 0, 1) := by decide +kernel
theorem dJ6_bitCount_0f7a4_49 : decode cJ6_bitCount_0f7a4 49 = .ok (.bipush 63, 2) := by decide +kernel
theorem dJ6_bitCount_0f7a4_51 : decode cJ6_bitCount_0f7a4 51 = .ok (.iand, 1) := by decide +kernel
theorem dJ6_bitCount_0f7a4_52 : decode cJ6_bitCount_0f7a4 52 = .ok (.ireturn, 1) := by decide +kernel
theorem dJ9_max_7cf53_0 : decode cJ9_max_7cf53 0 = .ok (.iload_n 0, 1) := by decide +kernel
theorem dJ9_max_7cf53_1 : decode cJ9_max_7cf53 1 = .ok (.iload_n 1, 1) := by decide +kernel
theorem dJ9_max_7cf53_2 : decode cJ9_max_7cf53 2 = .ok (.if_icmp .lt 7, 3) := by decide +kernel
theorem dJ9_max_7cf53_5 : decode cJ9_max_7cf53 5 = .ok (.iload_n 0, 1) := by decide +kernel
theorem dJ9_max_7cf53_6 : decode cJ9_max_7cf53 6 = .ok (.goto 4, 3) := by decide +kernel
theorem dJ9_max_7cf53_9 : decode cJ9_max_7cf53 9 = .ok (.iload_n 1, 1) := by decide +kernel
theorem dJ9_max_7cf53_10 : decode cJ9_max_7cf53 10 = .ok (.ireturn, 1) := by decide +kernel
theorem dJ9_max_f86c9_0 : decode cJ9_max_f86c9 0 = .ok (.lload_n 0, 1) := by decide +kernel
theorem dJ9_max_f86c9_1 : decode cJ9_max_f86c9 1 = .ok (.lload_n 2, 1) := by decide +kernel
theorem dJ9_max_f86c9_2 : decode cJ9_max_f86c9 2 = .ok (.lcmp, 1) := by decide +kernel
theorem dJ9_max_f86c9_3 : decode cJ9_max_f86c9 3 = .ok (.ifCond .lt 7, 3) := by decide +kernel
theorem dJ9_max_f86c9_6 : decode cJ9_max_f86c9 6 = .ok (.lload_n 0, 1) := by decide +kernel
theorem dJ9_max_f86c9_7 : decode cJ9_max_f86c9 7 = .ok (.goto 4, 3) := by decide +kernel
theorem dJ9_max_f86c9_10 : decode cJ9_max_f86c9 10 = .ok (.lload_n 2, 1) := by decide +kernel
theorem dJ9_max_f86c9_11 : decode cJ9_max_f86c9 11 = .ok (.lreturn, 1) := by decide +kernel
theorem dJ9_min_7cf53_0 : decode cJ9_min_7cf53 0 = .ok (.iload_n 0, 1) := by decide +kernel
theorem dJ9_min_7cf53_1 : decode cJ9_min_7cf53 1 = .ok (.iload_n 1, 1) := by decide +kernel
theorem dJ9_min_7cf53_2 : decode cJ9_min_7cf53 2 = .ok (.if_icmp .gt 7, 3) := by decide +kernel
theorem dJ9_min_7cf53_5 : decode cJ9_min_7cf53 5 = .ok (.iload_n 0, 1) := by decide +kernel
theorem dJ9_min_7cf53_6 : decode cJ9_min_7cf53 6 = .ok (.goto 4, 3) := by decide +kernel
theorem dJ9_min_7cf53_9 : decode cJ9_min_7cf53 9 = .ok (.iload_n 1, 1) := by decide +kernel
theorem dJ9_min_7cf53_10 : decode cJ9_min_7cf53 10 = .ok (.ireturn, 1) := by decide +kernel
