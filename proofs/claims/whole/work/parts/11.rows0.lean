theorem dJ6_bitCount_0f7a4_0 : decode cJ6_bitCount_0f7a4 0 = .ok (.iload_n 0, 1) := by decide +kernel
theorem dJ6_bitCount_0f7a4_1 : decode cJ6_bitCount_0f7a4 1 = .ok (.iload_n 0, 1) := by decide +kernel
theorem dJ6_bitCount_0f7a4_2 : decode cJ6_bitCount_0f7a4 2 = .ok (.iconst 1, 1) := by decide +kernel
theorem dJ6_bitCount_0f7a4_3 : decode cJ6_bitCount_0f7a4 3 = .ok (.iushr, 1) := by decide +kernel
theorem dJ6_bitCount_0f7a4_4 : decode cJ6_bitCount_0f7a4 4 = .ok (.ldc_w 265, 3) := by decide +kernel
theorem dJ6_bitCount_0f7a4_7 : decode cJ6_bitCount_0f7a4 7 = .ok (.iand, 1) := by decide +kernel
theorem dJ6_bitCount_0f7a4_8 : decode cJ6_bitCount_0f7a4 8 = .ok (.isub, 1) := by decide +kernel
theorem dJ6_bitCount_0f7a4_9 : decode cJ6_bitCount_0f7a4 9 = .ok (.istore_n 0, 1) := by decide +kernel
theorem dJ6_bitCount_0f7a4_10 : decode cJ6_bitCount_0f7a4 10 = .ok (.iload_n 0, 1) := by decide +kernel
theorem dJ6_bitCount_0f7a4_11 : decode cJ6_bitCount_0f7a4 11 = .ok (.ldc_w 266, 3) := by decide +kernel
theorem dJ6_bitCount_0f7a4_14 : decode cJ6_bitCount_0f7a4 14 = .ok (.iand, 1) := by decide +kernel
theorem dJ6_bitCount_0f7a4_15 : decode cJ6_bitCount_0f7a4 15 = .ok (.iload_n 0, 1) := by decide +kernel
theorem dJ6_bitCount_0f7a4_16 : decode cJ6_bitCount_0f7a4 16 = .ok (.iconst 2, 1) := by decide +kernel
theorem dJ6_bitCount_0f7a4_17 : decode cJ6_bitCount_0f7a4 17 = .ok (.iushr, 1) := by decide +kernel
theorem dJ6_bitCount_0f7a4_18 : decode cJ6_bitCount_0f7a4 18 = .ok (.ldc_w 266, 3) := by decide +kernel
theorem dJ6_bitCount_0f7a4_21 : decode cJ6_bitCount_0f7a4 21 = .ok (.iand, 1) := by decide +kernel
theorem dJ6_bitCount_0f7a4_22 : decode cJ6_bitCount_0f7a4 22 = .ok (.iadd, 1) := by decide +kernel
theorem dJ6_bitCount_0f7a4_23 : decode cJ6_bitCount_0f7a4 23 = .ok (.istore_n 0, 1) := by decide +kernel
theorem dJ6_bitCount_0f7a4_24 : decode cJ6_bitCount_0f7a4 24 = .ok (.iload_n 0, 1) := by decide +kernel
theorem dJ6_bitCount_0f7a4_25 : decode cJ6_bitCount_0f7a4 25 = .ok (.iload_n 0, 1) := by decide +kernel
theorem dJ6_bitCount_0f7a4_26 : decode cJ6_bitCount_0f7a4 26 = .ok (.iconst 4, 1) := by decide +kernel
theorem dJ6_bitCount_0f7a4_27 : decode cJ6_bitCount_0f7a4 27 = .ok (.iushr, 1) := by decide +kernel
theorem dJ6_bitCount_0f7a4_28 : decode cJ6_bitCount_0f7a4 28 = .ok (.iadd, 1) := by decide +kernel
theorem dJ6_bitCount_0f7a4_29 : decode cJ6_bitCount_0f7a4 29 = .ok (.ldc_w 267, 3) := by decide +kernel
theorem dJ6_bitCount_0f7a4_32 : decode cJ6_bitCount_0f7a4 32 = .ok (.iand, 1) := by decide +kernel
theorem dJ6_bitCount_0f7a4_33 : decode cJ6_bitCount_0f7a4 33 = .ok (.istore_n 0, 1) := by decide +kernel
theorem dJ6_bitCount_0f7a4_34 : decode cJ6_bitCount_0f7a4 34 = .ok (.iload_n 0, 1) := by decide +kernel
theorem dJ6_bitCount_0f7a4_35 : decode cJ6_bitCount_0f7a4 35 = .ok (.iload_n 0, 1) := by decide +kernel
theorem dJ6_bitCount_0f7a4_36 : decode cJ6_bitCount_0f7a4 36 = .ok (.bipush 8, 2) := by decide +kernel
theorem dJ6_bitCount_0f7a4_38 : decode cJ6_bitCount_0f7a4 38 = .ok (.iushr, 1) := by decide +kernel
theorem dJ6_bitCount_0f7a4_39 : decode cJ6_bitCount_0f7a4 39 = .ok (.iadd, 1) := by decide +kernel
theorem dJ6_bitCount_0f7a4_40 : decode cJ6_bitCount_0f7a4 40 = .ok (.istore_n 0, 1) := by decide +kernel
theorem dJ6_bitCount_0f7a4_41 : decode cJ6_bitCount_0f7a4 41 = .ok (.iload_n 0, 1) := by decide +kernel
theorem dJ6_bitCount_0f7a4_42 : decode cJ6_bitCount_0f7a4 42 = .ok (.iload_n 0, 1) := by decide +kernel
theorem dJ6_bitCount_0f7a4_43 : decode cJ6_bitCount_0f7a4 43 = .ok (.bipush 16, 2) := by decide +kernel
theorem dJ6_bitCount_0f7a4_45 : decode cJ6_bitCount_0f7a4 45 = .ok (.iushr, 1) := by decide +kernel
theorem dJ6_bitCount_0f7a4_46 : decode cJ6_bitCount_0f7a4 46 = .ok (.iadd, 1) := by decide +kernel
theorem dJ6_bitCount_0f7a4_47 : decode cJ6_bitCount_0f7a4 47 = .ok (.istore_n 0, 1) := by decide +kernel
theorem dJ6_bitCount_0f7a4_48 : decode cJ6_bitCount_0f7a4 48 = .ok (.iload_n 0, 1) := by decide +kernel
theorem dJ6_bitCount_0f7a4_49 : decode cJ6_bitCount_0f7a4 49 = .ok (.bipush 63, 2) := by decide +kernel
theorem dJ6_bitCount_0f7a4_51 : decode cJ6_bitCount_0f7a4 51 = .ok (.iand, 1) := by decide +kernel
theorem dJ6_bitCount_0f7a4_52 : decode cJ6_bitCount_0f7a4 52 = .ok (.ireturn, 1) := by decide +kernel
theorem dJ9_abs_0f7a4_0 : decode cJ9_abs_0f7a4 0 = .ok (.iload_n 0, 1) := by decide +kernel
theorem dJ9_abs_0f7a4_1 : decode cJ9_abs_0f7a4 1 = .ok (.ifCond .ge 8, 3) := by decide +kernel
theorem dJ9_abs_0f7a4_4 : decode cJ9_abs_0f7a4 4 = .ok (.iload_n 0, 1) := by decide +kernel
theorem dJ9_abs_0f7a4_5 : decode cJ9_abs_0f7a4 5 = .ok (.ineg, 1) := by decide +kernel
theorem dJ9_abs_0f7a4_6 : decode cJ9_abs_0f7a4 6 = .ok (.goto 4, 3) := by decide +kernel
theorem dJ9_abs_0f7a4_9 : decode cJ9_abs_0f7a4 9 = .ok (.iload_n 0, 1) := by decide +kernel
theorem dJ9_abs_0f7a4_10 : decode cJ9_abs_0f7a4 10 = .ok (.ireturn, 1) := by decide +kernel
theorem dJ9_max_7cf53_0 : decode cJ9_max_7cf53 0 = .ok (.iload_n 0, 1) := by decide +kernel
theorem dJ9_max_7cf53_1 : decode cJ9_max_7cf53 1 = .ok (.iload_n 1, 1) := by decide +kernel
theorem dJ9_max_7cf53_2 : decode cJ9_max_7cf53 2 = .ok (.if_icmp .lt 7, 3) := by decide +kernel
theorem dJ9_max_7cf53_5 : decode cJ9_max_7cf53 5 = .ok (.iload_n 0, 1) := by decide +kernel
theorem dJ9_max_7cf53_6 : decode cJ9_max_7cf53 6 = .ok (.goto 4, 3) := by decide +kernel
theorem dJ9_max_7cf53_9 : decode cJ9_max_7cf53 9 = .ok (.iload_n 1, 1) := by decide +kernel
theorem dJ9_max_7cf53_10 : decode cJ9_max_7cf53 10 = .ok (.ireturn, 1) := by decide +kernel
theorem dJ9_min_7cf53_0 : decode cJ9_min_7cf53 0 = .ok (.iload_n 0, 1) := by decide +kernel
theorem dJ9_min_7cf53_1 : decode cJ9_min_7cf53 1 = .ok (.iload_n 1, 1) := by decide +kernel
theorem dJ9_min_7cf53_2 : decode cJ9_min_7cf53 2 = .ok (.if_icmp .gt 7, 3) := by decide +kernel
theorem dJ9_min_7cf53_5 : decode cJ9_min_7cf53 5 = .ok (.iload_n 0, 1) := by decide +kernel
theorem dJ9_min_7cf53_6 : decode cJ9_min_7cf53 6 = .ok (.goto 4, 3) := by decide +kernel
theorem dJ9_min_7cf53_9 : decode cJ9_min_7cf53 9 = .ok (.iload_n 1, 1) := by decide +kernel
theorem dJ9_min_7cf53_10 : decode cJ9_min_7cf53 10 = .ok (.ireturn, 1) := by decide +kernel
theorem dJ7_fill_d0a16_0 : decode cJ7_fill_d0a16 0 = .ok (.iconst 0, 1) := by decide +kernel
theorem dJ7_fill_d0a16_1 : decode cJ7_fill_d0a16 1 = .ok (.istore_n 3, 1) := by decide +kernel
theorem dJ7_fill_d0a16_2 : decode cJ7_fill_d0a16 2 = .ok (.aload_n 0, 1) := by decide +kernel
theorem dJ7_fill_d0a16_3 : decode cJ7_fill_d0a16 3 = .ok (.arraylength, 1) := by decide +kernel
theorem dJ7_fill_d0a16_4 : decode cJ7_fill_d0a16 4 = .ok (.istore 4, 2) := by decide +kernel
theorem dJ7_fill_d0a16_6 : decode cJ7_fill_d0a16 6 = .ok (.iload_n 3, 1) := by decide +kernel
theorem dJ7_fill_d0a16_7 : decode cJ7_fill_d0a16 7 = .ok (.iload 4, 2) := by decide +kernel
theorem dJ7_fill_d0a16_9 : decode cJ7_fill_d0a16 9 = .ok (.if_icmp .ge 13, 3) := by decide +kernel
theorem dJ7_fill_d0a16_12 : decode cJ7_fill_d0a16 12 = .ok (.aload_n 0, 1) := by decide +kernel
theorem dJ7_fill_d0a16_13 : decode cJ7_fill_d0a16 13 = .ok (.iload_n 3, 1) := by decide +kernel
theorem dJ7_fill_d0a16_14 : decode cJ7_fill_d0a16 14 = .ok (.lload_n 1, 1) := by decide +kernel
theorem dJ7_fill_d0a16_15 : decode cJ7_fill_d0a16 15 = .ok (.lastore, 1) := by decide +kernel
theorem dJ7_fill_d0a16_16 : decode cJ7_fill_d0a16 16 = .ok (.iinc 3 1, 3) := by decide +kernel
theorem dJ7_fill_d0a16_19 : decode cJ7_fill_d0a16 19 = .ok (.goto (-13), 3) := by decide +kernel
theorem dJ7_fill_d0a16_22 : decode cJ7_fill_d0a16 22 = .ok (.return_, 1) := by decide +kernel
theorem dJ7_fill_53178_0 : decode cJ7_fill_53178 0 = .ok (.iconst 0, 1) := by decide +kernel
theorem dJ7_fill_53178_1 : decode cJ7_fill_53178 1 = .ok (.istore_n 2, 1) := by decide +kernel
theorem dJ7_fill_53178_2 : decode cJ7_fill_53178 2 = .ok (.aload_n 0, 1) := by decide +kernel
theorem dJ7_fill_53178_3 : decode cJ7_fill_53178 3 = .ok (.arraylength, 1) := by decide +kernel
theorem dJ7_fill_53178_4 : decode cJ7_fill_53178 4 = .ok (.istore_n 3, 1) := by decide +kernel
theorem dJ7_fill_53178_5 : decode cJ7_fill_53178 5 = .ok (.iload_n 2, 1) := by decide +kernel
theorem dJ7_fill_53178_6 : decode cJ7_fill_53178 6 = .ok (.iload_n 3, 1) := by decide +kernel
theorem dJ7_fill_53178_7 : decode cJ7_fill_53178 7 = .ok (.if_icmp .ge 13, 3) := by decide +kernel
theorem dJ7_fill_53178_10 : decode cJ7_fill_53178 10 = .ok (.aload_n 0, 1) := by decide +kernel
theorem dJ7_fill_53178_11 : decode cJ7_fill_53178 11 = .ok (.iload_n 2, 1) := by decide +kernel
theorem dJ7_fill_53178_12 : decode cJ7_fill_53178 12 = .ok (.iload_n 1, 1) := by decide +kernel
theorem dJ7_fill_53178_13 : decode cJ7_fill_53178 13 = .ok (.iastore, 1) := by decide +kernel
theorem dJ7_fill_53178_14 : decode cJ7_fill_53178 14 = .ok (.iinc 2 1, 3) := by decide +kernel
theorem dJ7_fill_53178_17 : decode cJ7_fill_53178 17 = .ok (.goto (-12), 3) := by decide +kernel
theorem dJ7_fill_53178_20 : decode cJ7_fill_53178 20 = .ok (.return_, 1) := by decide +kernel
theorem dX0_init_0 : decode cX0_init 0 = .ok (.aload_n 0, 1) := by decide +kernel
theorem dX0_init_1 : decode cX0_init 1 = .ok (.invokespecial 3, 3) := by decide +kernel
theorem dX0_init_4 : decode cX0_init 4 = .ok (.aload_n 0, 1) := by decide +kernel
theorem dX0_init_5 : decode cX0_init 5 = .ok (.bipush 20, 2) := by decide +kernel
theorem dX0_init_7 : decode cX0_init 7 = .ok (.newarray .int, 2) := by decide +kernel
theorem dX0_init_9 : decode cX0_init 9 = .ok (.putfield 9, 3) := by decide +kernel
theorem dX0_init_12 : decode cX0_init 12 = .ok (.aload_n 0, 1) := by decide +kernel
theorem dX0_init_13 : decode cX0_init 13 = .ok (.iconst 0, 1) := by decide +kernel
theorem dX0_init_14 : decode cX0_init 14 = .ok (.putfield 15, 3) := by decide +kernel
theorem dX0_init_17 : decode cX0_init 17 = .ok (.return_, 1) := by decide +kernel
theorem dX0_add_0 : decode cX0_add 0 = .ok (.aload_n 0, 1) := by decide +kernel
theorem dX0_add_1 : decode cX0_add 1 = .ok (.getfield 15, 3) := by decide +kernel
theorem dX0_add_4 : decode cX0_add 4 = .ok (.bipush 20, 2) := by decide +kernel
theorem dX0_add_6 : decode cX0_add 6 = .ok (.if_icmp .ge 23, 3) := by decide +kernel
theorem dX0_add_9 : decode cX0_add 9 = .ok (.aload_n 0, 1) := by decide +kernel
theorem dX0_add_10 : decode cX0_add 10 = .ok (.getfield 9, 3) := by decide +kernel
theorem dX0_add_13 : decode cX0_add 13 = .ok (.aload_n 0, 1) := by decide +kernel
theorem dX0_add_14 : decode cX0_add 14 = .ok (.getfield 15, 3) := by decide +kernel
theorem dX0_add_17 : decode cX0_add 17 = .ok (.iload_n 1, 1) := by decide +kernel
theorem dX0_add_18 : decode cX0_add 18 = .ok (.iastore, 1) := by decide +kernel
theorem dX0_add_19 : decode cX0_add 19 = .ok (.aload_n 0, 1) := by decide +kernel
theorem dX0_add_20 : decode cX0_add 20 = .ok (.dup, 1) := by decide +kernel
theorem dX0_add_21 : decode cX0_add 21 = .ok (.getfield 15, 3) := by decide +kernel
theorem dX0_add_24 : decode cX0_add 24 = .ok (.iconst 1, 1) := by decide +kernel
theorem dX0_add_25 : decode cX0_add 25 = .ok (.iadd, 1) := by decide +kernel
theorem dX0_add_26 : decode cX0_add 26 = .ok (.putfield 15, 3) := by decide +kernel
theorem dX0_add_29 : decode cX0_add 29 = .ok (.aload_n 0, 1) := by decide +kernel
theorem dX0_add_30 : decode cX0_add 30 = .ok (.getfield 15, 3) := by decide +kernel
theorem dX0_add_33 : decode cX0_add 33 = .ok (.ireturn, 1) := by decide +kernel
set_option maxRecDepth 20000 in
theorem ggX0_wrong_X10_holds : GoodIn wsX0_wrong wsX10_holds := goodIn_r _ [7] (by decide +kernel) (by decide +kernel)
set_option maxRecDepth 20000 in
theorem gX0_wrong_X10_holds_n27 : GoodIn wsX0_wrong (wsX10_holds) := ggX0_wrong_X10_holds
set_option maxRecDepth 20000 in
theorem ggX0_wrong_X7_drumAfter : GoodIn wsX0_wrong wsX7_drumAfter := goodIn_r _ [12, 13, 14, 15, 11, 16, 17, 18, 19, 20, 21, 22, 23, 24, 25, 26, 27, 42, 43, 44, 45, 46, 47] (by decide +kernel) (by decide +kernel)
set_option maxRecDepth 20000 in
theorem gX0_wrong_X7_drumAfter : GoodIn wsX0_wrong (wsV RX0 31 RX7 yX7_drumAfter wsX7_drumAfter) := goodIn_app (goodIn_of _ (by decide +kernel)) ggX0_wrong_X7_drumAfter
set_option maxRecDepth 20000 in
theorem ggX0_wrong_X7_drawsAfter : GoodIn wsX0_wrong wsX7_drawsAfter := goodIn_r _ [31, 13, 14, 15, 11, 16, 17, 18, 19, 20, 21, 22, 42, 43, 44, 45, 46, 47] (by decide +kernel) (by decide +kernel)
set_option maxRecDepth 20000 in
theorem gX0_wrong_X7_drawsAfter : GoodIn wsX0_wrong (wsV RX0 37 RX7 yX7_drawsAfter wsX7_drawsAfter) := goodIn_app (goodIn_of _ (by decide +kernel)) ggX0_wrong_X7_drawsAfter
theorem dX0_wrong_0 : decode cX0_wrong 0 = .ok (.aload_n 2, 1) := by decide +kernel
theorem dX0_wrong_1 : decode cX0_wrong 1 = .ok (.getfield 19, 3) := by decide +kernel
theorem dX0_wrong_4 : decode cX0_wrong 4 = .ok (.istore_n 3, 1) := by decide +kernel
theorem dX0_wrong_5 : decode cX0_wrong 5 = .ok (.aload_n 2, 1) := by decide +kernel
theorem dX0_wrong_6 : decode cX0_wrong 6 = .ok (.getfield 24, 3) := by decide +kernel
theorem dX0_wrong_9 : decode cX0_wrong 9 = .ok (.istore 4, 2) := by decide +kernel
theorem dX0_wrong_11 : decode cX0_wrong 11 = .ok (.iconst 0, 1) := by decide +kernel
theorem dX0_wrong_12 : decode cX0_wrong 12 = .ok (.istore 5, 2) := by decide +kernel
theorem dX0_wrong_14 : decode cX0_wrong 14 = .ok (.iload 5, 2) := by decide +kernel
theorem dX0_wrong_16 : decode cX0_wrong 16 = .ok (.aload_n 0, 1) := by decide +kernel
theorem dX0_wrong_17 : decode cX0_wrong 17 = .ok (.getfield 15, 3) := by decide +kernel
theorem dX0_wrong_20 : decode cX0_wrong 20 = .ok (.if_icmp .ge 56, 3) := by decide +kernel
theorem dX0_wrong_23 : decode cX0_wrong 23 = .ok (.aload_n 0, 1) := by decide +kernel
theorem dX0_wrong_24 : decode cX0_wrong 24 = .ok (.getfield 9, 3) := by decide +kernel
theorem dX0_wrong_27 : decode cX0_wrong 27 = .ok (.iload 5, 2) := by decide +kernel
theorem dX0_wrong_29 : decode cX0_wrong 29 = .ok (.iaload, 1) := by decide +kernel
theorem dX0_wrong_30 : decode cX0_wrong 30 = .ok (.istore 6, 2) := by decide +kernel
theorem dX0_wrong_32 : decode cX0_wrong 32 = .ok (.iload_n 3, 1) := by decide +kernel
theorem dX0_wrong_33 : decode cX0_wrong 33 = .ok (.iload 6, 2) := by decide +kernel
theorem dX0_wrong_35 : decode cX0_wrong 35 = .ok (.invokestatic 27, 3) := by decide +kernel
theorem dX0_wrong_38 : decode cX0_wrong 38 = .ok (.ifCond .ne 6, 3) := by decide +kernel
theorem dX0_wrong_41 : decode cX0_wrong 41 = .ok (.iload 5, 2) := by decide +kernel
theorem dX0_wrong_43 : decode cX0_wrong 43 = .ok (.ireturn, 1) := by decide +kernel
theorem dX0_wrong_44 : decode cX0_wrong 44 = .ok (.iload_n 3, 1) := by decide +kernel
theorem dX0_wrong_45 : decode cX0_wrong 45 = .ok (.istore 7, 2) := by decide +kernel
theorem dX0_wrong_47 : decode cX0_wrong 47 = .ok (.aload_n 1, 1) := by decide +kernel
theorem dX0_wrong_48 : decode cX0_wrong 48 = .ok (.iload 7, 2) := by decide +kernel
theorem dX0_wrong_50 : decode cX0_wrong 50 = .ok (.iload 4, 2) := by decide +kernel
theorem dX0_wrong_52 : decode cX0_wrong 52 = .ok (.iload 6, 2) := by decide +kernel
theorem dX0_wrong_54 : decode cX0_wrong 54 = .ok (.invokevirtual 31, 3) := by decide +kernel
theorem dX0_wrong_57 : decode cX0_wrong 57 = .ok (.istore_n 3, 1) := by decide +kernel
theorem dX0_wrong_58 : decode cX0_wrong 58 = .ok (.aload_n 1, 1) := by decide +kernel
theorem dX0_wrong_59 : decode cX0_wrong 59 = .ok (.iload 7, 2) := by decide +kernel
theorem dX0_wrong_61 : decode cX0_wrong 61 = .ok (.iload 4, 2) := by decide +kernel
theorem dX0_wrong_63 : decode cX0_wrong 63 = .ok (.iload 6, 2) := by decide +kernel
theorem dX0_wrong_65 : decode cX0_wrong 65 = .ok (.invokevirtual 37, 3) := by decide +kernel
theorem dX0_wrong_68 : decode cX0_wrong 68 = .ok (.istore 4, 2) := by decide +kernel
theorem dX0_wrong_70 : decode cX0_wrong 70 = .ok (.iinc 5 1, 3) := by decide +kernel
theorem dX0_wrong_73 : decode cX0_wrong 73 = .ok (.goto (-59), 3) := by decide +kernel
theorem dX0_wrong_76 : decode cX0_wrong 76 = .ok (.iconst (-1), 1) := by decide +kernel
theorem dX0_wrong_77 : decode cX0_wrong 77 = .ok (.ireturn, 1) := by decide +kernel
set_option maxRecDepth 20000 in
theorem ggX0_ageBehind_X0_wrong : GoodIn wsX0_ageBehind wsX0_wrong := goodIn_r _ [8, 9, 10, 1, 3, 11, 12, 13, 14, 15, 16, 17, 18, 19, 20, 21, 22, 23, 24, 25, 26, 27, 28, 29, 30, 31, 32, 33, 34, 35, 36, 37, 53, 54, 55, 56, 57, 58, 59, 60, 51, 52, 61, 62, 63, 64, 65, 66] (by decide +kernel) (by decide +kernel)
set_option maxRecDepth 20000 in
theorem gX0_ageBehind_X0_wrong : GoodIn wsX0_ageBehind (wsV RX0 40 RX0 yX0_wrong wsX0_wrong) := goodIn_app (goodIn_of _ (by decide +kernel)) ggX0_ageBehind_X0_wrong
set_option maxRecDepth 20000 in
theorem ggX0_ageBehind_X4_whoAges : GoodIn wsX0_ageBehind wsX4_whoAges := goodIn_r _ [42, 43, 44, 53, 54, 55, 56, 57, 58, 59, 60] (by decide +kernel) (by decide +kernel)
set_option maxRecDepth 20000 in
theorem gX0_ageBehind_X4_whoAges : GoodIn wsX0_ageBehind (wsV RX0 47 RX4 yX4_whoAges wsX4_whoAges) := goodIn_app (goodIn_of _ (by decide +kernel)) ggX0_ageBehind_X4_whoAges
set_option maxRecDepth 20000 in
theorem ggX0_ageBehind_X10_older : GoodIn wsX0_ageBehind wsX10_older := goodIn_r _ [46, 47, 48, 49, 50] (by decide +kernel) (by decide +kernel)
set_option maxRecDepth 20000 in
theorem gX0_ageBehind_X10_older_n51 : GoodIn wsX0_ageBehind (wsX10_older) := ggX0_ageBehind_X10_older
theorem dX0_ageBehind_0 : decode cX0_ageBehind 0 = .ok (.aload_n 0, 1) := by decide +kernel
theorem dX0_ageBehind_1 : decode cX0_ageBehind 1 = .ok (.aload_n 1, 1) := by decide +kernel
theorem dX0_ageBehind_2 : decode cX0_ageBehind 2 = .ok (.aload_n 2, 1) := by decide +kernel
theorem dX0_ageBehind_3 : decode cX0_ageBehind 3 = .ok (.invokevirtual 40, 3) := by decide +kernel
theorem dX0_ageBehind_6 : decode cX0_ageBehind 6 = .ok (.istore 4, 2) := by decide +kernel
theorem dX0_ageBehind_8 : decode cX0_ageBehind 8 = .ok (.iload 4, 2) := by decide +kernel
theorem dX0_ageBehind_10 : decode cX0_ageBehind 10 = .ok (.iconst (-1), 1) := by decide +kernel
theorem dX0_ageBehind_11 : decode cX0_ageBehind 11 = .ok (.if_icmp .ne 10, 3) := by decide +kernel
theorem dX0_ageBehind_14 : decode cX0_ageBehind 14 = .ok (.aload_n 0, 1) := by decide +kernel
theorem dX0_ageBehind_15 : decode cX0_ageBehind 15 = .ok (.getfield 15, 3) := by decide +kernel
theorem dX0_ageBehind_18 : decode cX0_ageBehind 18 = .ok (.goto 5, 3) := by decide +kernel
theorem dX0_ageBehind_21 : decode cX0_ageBehind 21 = .ok (.iload 4, 2) := by decide +kernel
theorem dX0_ageBehind_23 : decode cX0_ageBehind 23 = .ok (.istore 5, 2) := by decide +kernel
theorem dX0_ageBehind_25 : decode cX0_ageBehind 25 = .ok (.aload_n 2, 1) := by decide +kernel
theorem dX0_ageBehind_26 : decode cX0_ageBehind 26 = .ok (.getfield 44, 3) := by decide +kernel
theorem dX0_ageBehind_29 : decode cX0_ageBehind 29 = .ok (.iload_n 3, 1) := by decide +kernel
theorem dX0_ageBehind_30 : decode cX0_ageBehind 30 = .ok (.iaload, 1) := by decide +kernel
theorem dX0_ageBehind_31 : decode cX0_ageBehind 31 = .ok (.istore 6, 2) := by decide +kernel
theorem dX0_ageBehind_33 : decode cX0_ageBehind 33 = .ok (.iconst 0, 1) := by decide +kernel
theorem dX0_ageBehind_34 : decode cX0_ageBehind 34 = .ok (.istore 7, 2) := by decide +kernel
theorem dX0_ageBehind_36 : decode cX0_ageBehind 36 = .ok (.iload 7, 2) := by decide +kernel
theorem dX0_ageBehind_38 : decode cX0_ageBehind 38 = .ok (.iload 5, 2) := by decide +kernel
theorem dX0_ageBehind_40 : decode cX0_ageBehind 40 = .ok (.if_icmp .ge 31, 3) := by decide +kernel
theorem dX0_ageBehind_43 : decode cX0_ageBehind 43 = .ok (.aload_n 2, 1) := by decide +kernel
theorem dX0_ageBehind_44 : decode cX0_ageBehind 44 = .ok (.aload_n 0, 1) := by decide +kernel
theorem dX0_ageBehind_45 : decode cX0_ageBehind 45 = .ok (.getfield 9, 3) := by decide +kernel
theorem dX0_ageBehind_48 : decode cX0_ageBehind 48 = .ok (.iload 7, 2) := by decide +kernel
theorem dX0_ageBehind_50 : decode cX0_ageBehind 50 = .ok (.iaload, 1) := by decide +kernel
theorem dX0_ageBehind_51 : decode cX0_ageBehind 51 = .ok (.invokevirtual 47, 3) := by decide +kernel
theorem dX0_ageBehind_54 : decode cX0_ageBehind 54 = .ok (.iload_n 3, 1) := by decide +kernel
theorem dX0_ageBehind_55 : decode cX0_ageBehind 55 = .ok (.if_icmp .ne 10, 3) := by decide +kernel
theorem dX0_ageBehind_58 : decode cX0_ageBehind 58 = .ok (.iload 6, 2) := by decide +kernel
theorem dX0_ageBehind_60 : decode cX0_ageBehind 60 = .ok (.invokestatic 51, 3) := by decide +kernel
theorem dX0_ageBehind_63 : decode cX0_ageBehind 63 = .ok (.istore 6, 2) := by decide +kernel
theorem dX0_ageBehind_65 : decode cX0_ageBehind 65 = .ok (.iinc 7 1, 3) := by decide +kernel
theorem dX0_ageBehind_68 : decode cX0_ageBehind 68 = .ok (.goto (-32), 3) := by decide +kernel
theorem dX0_ageBehind_71 : decode cX0_ageBehind 71 = .ok (.iload 6, 2) := by decide +kernel
theorem dX0_ageBehind_73 : decode cX0_ageBehind 73 = .ok (.ireturn, 1) := by decide +kernel
theorem dX1_init_0 : decode cX1_init 0 = .ok (.aload_n 0, 1) := by decide +kernel
theorem dX1_init_1 : decode cX1_init 1 = .ok (.invokespecial 3, 3) := by decide +kernel
theorem dX1_init_4 : decode cX1_init 4 = .ok (.aload_n 0, 1) := by decide +kernel
theorem dX1_init_5 : decode cX1_init 5 = .ok (.bipush 6, 2) := by decide +kernel
theorem dX1_init_7 : decode cX1_init 7 = .ok (.newarray .int, 2) := by decide +kernel
theorem dX1_init_9 : decode cX1_init 9 = .ok (.putfield 9, 3) := by decide +kernel
theorem dX1_init_12 : decode cX1_init 12 = .ok (.aload_n 0, 1) := by decide +kernel
theorem dX1_init_13 : decode cX1_init 13 = .ok (.bipush 6, 2) := by decide +kernel
theorem dX1_init_15 : decode cX1_init 15 = .ok (.newarray .int, 2) := by decide +kernel
theorem dX1_init_17 : decode cX1_init 17 = .ok (.putfield 15, 3) := by decide +kernel
theorem dX1_init_20 : decode cX1_init 20 = .ok (.aload_n 0, 1) := by decide +kernel
theorem dX1_init_21 : decode cX1_init 21 = .ok (.iconst 4, 1) := by decide +kernel
theorem dX1_init_22 : decode cX1_init 22 = .ok (.newarray .int, 2) := by decide +kernel
theorem dX1_init_24 : decode cX1_init 24 = .ok (.putfield 18, 3) := by decide +kernel
theorem dX1_init_27 : decode cX1_init 27 = .ok (.aload_n 0, 1) := by decide +kernel
theorem dX1_init_28 : decode cX1_init 28 = .ok (.iconst 4, 1) := by decide +kernel
theorem dX1_init_29 : decode cX1_init 29 = .ok (.newarray .int, 2) := by decide +kernel
theorem dX1_init_31 : decode cX1_init 31 = .ok (.putfield 21, 3) := by decide +kernel
theorem dX1_init_34 : decode cX1_init 34 = .ok (.aload_n 0, 1) := by decide +kernel
theorem dX1_init_35 : decode cX1_init 35 = .ok (.iconst 0, 1) := by decide +kernel
theorem dX1_init_36 : decode cX1_init 36 = .ok (.putfield 24, 3) := by decide +kernel
theorem dX1_init_39 : decode cX1_init 39 = .ok (.aload_n 0, 1) := by decide +kernel
theorem dX1_init_40 : decode cX1_init 40 = .ok (.iconst 0, 1) := by decide +kernel
theorem dX1_init_41 : decode cX1_init 41 = .ok (.putfield 28, 3) := by decide +kernel
theorem dX1_init_44 : decode cX1_init 44 = .ok (.aload_n 0, 1) := by decide +kernel
theorem dX1_init_45 : decode cX1_init 45 = .ok (.iconst 0, 1) := by decide +kernel
theorem dX1_init_46 : decode cX1_init 46 = .ok (.putfield 31, 3) := by decide +kernel
theorem dX1_init_49 : decode cX1_init 49 = .ok (.aload_n 0, 1) := by decide +kernel
theorem dX1_init_50 : decode cX1_init 50 = .ok (.iconst 0, 1) := by decide +kernel
theorem dX1_init_51 : decode cX1_init 51 = .ok (.putfield 34, 3) := by decide +kernel
theorem dX1_init_54 : decode cX1_init 54 = .ok (.return_, 1) := by decide +kernel
theorem dX1_light_0 : decode cX1_light 0 = .ok (.aload_n 0, 1) := by decide +kernel
theorem dX1_light_1 : decode cX1_light 1 = .ok (.getfield 9, 3) := by decide +kernel
theorem dX1_light_4 : decode cX1_light 4 = .ok (.iload_n 1, 1) := by decide +kernel
theorem dX1_light_5 : decode cX1_light 5 = .ok (.iload_n 2, 1) := by decide +kernel
theorem dX1_light_6 : decode cX1_light 6 = .ok (.iastore, 1) := by decide +kernel
theorem dX1_light_7 : decode cX1_light 7 = .ok (.aload_n 0, 1) := by decide +kernel
theorem dX1_light_8 : decode cX1_light 8 = .ok (.dup, 1) := by decide +kernel
theorem dX1_light_9 : decode cX1_light 9 = .ok (.getfield 24, 3) := by decide +kernel
theorem dX1_light_12 : decode cX1_light 12 = .ok (.iconst 1, 1) := by decide +kernel
theorem dX1_light_13 : decode cX1_light 13 = .ok (.iload_n 1, 1) := by decide +kernel
theorem dX1_light_14 : decode cX1_light 14 = .ok (.ishl, 1) := by decide +kernel
theorem dX1_light_15 : decode cX1_light 15 = .ok (.ior, 1) := by decide +kernel
theorem dX1_light_16 : decode cX1_light 16 = .ok (.putfield 24, 3) := by decide +kernel
theorem dX1_light_19 : decode cX1_light 19 = .ok (.aload_n 0, 1) := by decide +kernel
theorem dX1_light_20 : decode cX1_light 20 = .ok (.getfield 24, 3) := by decide +kernel
theorem dX1_light_23 : decode cX1_light 23 = .ok (.ireturn, 1) := by decide +kernel
set_option maxRecDepth 20000 in
theorem ggX1_search_X7_everyTicket : GoodIn wsX1_search wsX7_everyTicket := goodIn_r _ [23, 24, 84, 85, 86, 87, 88, 89] (by decide +kernel) (by decide +kernel)
set_option maxRecDepth 20000 in
theorem gX1_search_X7_everyTicket : GoodIn wsX1_search (wsV RX1 46 RX7 yX7_everyTicket wsX7_everyTicket) := goodIn_app (goodIn_of _ (by decide +kernel)) ggX1_search_X7_everyTicket
set_option maxRecDepth 20000 in
theorem ggX1_search_X10_holds : GoodIn wsX1_search wsX10_holds := goodIn_r _ [27] (by decide +kernel) (by decide +kernel)
set_option maxRecDepth 20000 in
theorem gX1_search_X10_holds_n59 : GoodIn wsX1_search (wsX10_holds) := ggX1_search_X10_holds
set_option maxRecDepth 20000 in
theorem ggX1_search_X1_extend : GoodIn wsX1_search wsX1_extend := goodIn_r _ [31, 13, 32, 2, 15, 16, 33, 34, 35, 36, 30, 37, 7, 38, 3, 4, 5, 6, 8, 39, 40, 41, 42, 43, 44, 45, 25, 26, 27, 46, 47, 48, 10, 11, 12, 49, 50, 51, 22, 52, 53, 54, 55, 56, 57, 58, 59, 60, 61, 62, 63, 20, 21, 23, 24, 64, 65, 66, 67, 28, 29, 76, 77, 78, 79, 80, 81, 82, 83, 84, 85, 86, 87, 88, 89, 68, 69, 70, 71, 72, 73, 74, 75] (by decide +kernel) (by decide +kernel)
set_option maxRecDepth 20000 in
theorem gX1_search_X1_extend : GoodIn wsX1_search (va_wsS RX1 69 yX1_extend wsX1_extend) := goodIn_app (goodIn_of _ (by decide +kernel)) ggX1_search_X1_extend
theorem dX1_search_0 : decode cX1_search 0 = .ok (.aload_n 2, 1) := by decide +kernel
theorem dX1_search_1 : decode cX1_search 1 = .ok (.getfield 37, 3) := by decide +kernel
theorem dX1_search_4 : decode cX1_search 4 = .ok (.iconst 0, 1) := by decide +kernel
theorem dX1_search_5 : decode cX1_search 5 = .ok (.aload_n 0, 1) := by decide +kernel
theorem dX1_search_6 : decode cX1_search 6 = .ok (.getfield 15, 3) := by decide +kernel
theorem dX1_search_9 : decode cX1_search 9 = .ok (.iconst 0, 1) := by decide +kernel
theorem dX1_search_10 : decode cX1_search 10 = .ok (.bipush 6, 2) := by decide +kernel
theorem dX1_search_12 : decode cX1_search 12 = .ok (.invokestatic 40, 3) := by decide +kernel
theorem dX1_search_15 : decode cX1_search 15 = .ok (.aload_n 0, 1) := by decide +kernel
theorem dX1_search_16 : decode cX1_search 16 = .ok (.iconst 0, 1) := by decide +kernel
theorem dX1_search_17 : decode cX1_search 17 = .ok (.putfield 28, 3) := by decide +kernel
theorem dX1_search_20 : decode cX1_search 20 = .ok (.aload_n 0, 1) := by decide +kernel
theorem dX1_search_21 : decode cX1_search 21 = .ok (.aload_n 1, 1) := by decide +kernel
theorem dX1_search_22 : decode cX1_search 22 = .ok (.invokevirtual 46, 3) := by decide +kernel
theorem dX1_search_25 : decode cX1_search 25 = .ok (.putfield 31, 3) := by decide +kernel
theorem dX1_search_28 : decode cX1_search 28 = .ok (.aload_n 0, 1) := by decide +kernel
theorem dX1_search_29 : decode cX1_search 29 = .ok (.iload_n 3, 1) := by decide +kernel
theorem dX1_search_30 : decode cX1_search 30 = .ok (.iconst 4, 1) := by decide +kernel
theorem dX1_search_31 : decode cX1_search 31 = .ok (.invokestatic 52, 3) := by decide +kernel
theorem dX1_search_34 : decode cX1_search 34 = .ok (.putfield 34, 3) := by decide +kernel
theorem dX1_search_37 : decode cX1_search 37 = .ok (.iconst 0, 1) := by decide +kernel
theorem dX1_search_38 : decode cX1_search 38 = .ok (.istore 4, 2) := by decide +kernel
theorem dX1_search_40 : decode cX1_search 40 = .ok (.iconst 0, 1) := by decide +kernel
theorem dX1_search_41 : decode cX1_search 41 = .ok (.istore 5, 2) := by decide +kernel
theorem dX1_search_43 : decode cX1_search 43 = .ok (.iload 5, 2) := by decide +kernel
theorem dX1_search_45 : decode cX1_search 45 = .ok (.aload_n 1, 1) := by decide +kernel
theorem dX1_search_46 : decode cX1_search 46 = .ok (.getfield 58, 3) := by decide +kernel
theorem dX1_search_49 : decode cX1_search 49 = .ok (.if_icmp .ge 62, 3) := by decide +kernel
theorem dX1_search_52 : decode cX1_search 52 = .ok (.aload_n 0, 1) := by decide +kernel
theorem dX1_search_53 : decode cX1_search 53 = .ok (.getfield 24, 3) := by decide +kernel
theorem dX1_search_56 : decode cX1_search 56 = .ok (.iload 5, 2) := by decide +kernel
theorem dX1_search_58 : decode cX1_search 58 = .ok (.invokestatic 59, 3) := by decide +kernel
theorem dX1_search_61 : decode cX1_search 61 = .ok (.ifCond .ne 6, 3) := by decide +kernel
theorem dX1_search_64 : decode cX1_search 64 = .ok (.goto 41, 3) := by decide +kernel
theorem dX1_search_67 : decode cX1_search 67 = .ok (.aload_n 0, 1) := by decide +kernel
theorem dX1_search_68 : decode cX1_search 68 = .ok (.getfield 15, 3) := by decide +kernel
theorem dX1_search_71 : decode cX1_search 71 = .ok (.iload 5, 2) := by decide +kernel
theorem dX1_search_73 : decode cX1_search 73 = .ok (.iaload, 1) := by decide +kernel
theorem dX1_search_74 : decode cX1_search 74 = .ok (.aload_n 0, 1) := by decide +kernel
theorem dX1_search_75 : decode cX1_search 75 = .ok (.getfield 9, 3) := by decide +kernel
theorem dX1_search_78 : decode cX1_search 78 = .ok (.iload 5, 2) := by decide +kernel
theorem dX1_search_80 : decode cX1_search 80 = .ok (.iaload, 1) := by decide +kernel
theorem dX1_search_81 : decode cX1_search 81 = .ok (.if_icmp .le 4, 3) := by decide +kernel
theorem dX1_search_84 : decode cX1_search 84 = .ok (.return_, 1) := by decide +kernel
theorem dX1_search_85 : decode cX1_search 85 = .ok (.iload 4, 2) := by decide +kernel
theorem dX1_search_87 : decode cX1_search 87 = .ok (.aload_n 0, 1) := by decide +kernel
theorem dX1_search_88 : decode cX1_search 88 = .ok (.getfield 9, 3) := by decide +kernel
theorem dX1_search_91 : decode cX1_search 91 = .ok (.iload 5, 2) := by decide +kernel
theorem dX1_search_93 : decode cX1_search 93 = .ok (.iaload, 1) := by decide +kernel
theorem dX1_search_94 : decode cX1_search 94 = .ok (.aload_n 0, 1) := by decide +kernel
theorem dX1_search_95 : decode cX1_search 95 = .ok (.getfield 15, 3) := by decide +kernel
theorem dX1_search_98 : decode cX1_search 98 = .ok (.iload 5, 2) := by decide +kernel
theorem dX1_search_100 : decode cX1_search 100 = .ok (.iaload, 1) := by decide +kernel
theorem dX1_search_101 : decode cX1_search 101 = .ok (.isub, 1) := by decide +kernel
theorem dX1_search_102 : decode cX1_search 102 = .ok (.iadd, 1) := by decide +kernel
theorem dX1_search_103 : decode cX1_search 103 = .ok (.istore 4, 2) := by decide +kernel
theorem dX1_search_105 : decode cX1_search 105 = .ok (.iinc 5 1, 3) := by decide +kernel
theorem dX1_search_108 : decode cX1_search 108 = .ok (.goto (-65), 3) := by decide +kernel
theorem dX1_search_111 : decode cX1_search 111 = .ok (.aload_n 0, 1) := by decide +kernel
theorem dX1_search_112 : decode cX1_search 112 = .ok (.aload_n 1, 1) := by decide +kernel
theorem dX1_search_113 : decode cX1_search 113 = .ok (.aload_n 2, 1) := by decide +kernel
theorem dX1_search_114 : decode cX1_search 114 = .ok (.iconst 0, 1) := by decide +kernel
theorem dX1_search_115 : decode cX1_search 115 = .ok (.aload_n 2, 1) := by decide +kernel
theorem dX1_search_116 : decode cX1_search 116 = .ok (.getfield 63, 3) := by decide +kernel
theorem dX1_search_119 : decode cX1_search 119 = .ok (.aload_n 2, 1) := by decide +kernel
theorem dX1_search_120 : decode cX1_search 120 = .ok (.getfield 66, 3) := by decide +kernel
theorem dX1_search_123 : decode cX1_search 123 = .ok (.iload 4, 2) := by decide +kernel
theorem dX1_search_125 : decode cX1_search 125 = .ok (.invokestatic 69, 3) := by decide +kernel
theorem dX1_search_128 : decode cX1_search 128 = .ok (.return_, 1) := by decide +kernel
theorem dX1_firstAt_0 : decode cX1_firstAt 0 = .ok (.aload_n 0, 1) := by decide +kernel
theorem dX1_firstAt_1 : decode cX1_firstAt 1 = .ok (.getfield 28, 3) := by decide +kernel
theorem dX1_firstAt_4 : decode cX1_firstAt 4 = .ok (.ifCond .eq 15, 3) := by decide +kernel
theorem dX1_firstAt_7 : decode cX1_firstAt 7 = .ok (.iload_n 1, 1) := by decide +kernel
theorem dX1_firstAt_8 : decode cX1_firstAt 8 = .ok (.ifCond .lt 11, 3) := by decide +kernel
theorem dX1_firstAt_11 : decode cX1_firstAt 11 = .ok (.iload_n 1, 1) := by decide +kernel
theorem dX1_firstAt_12 : decode cX1_firstAt 12 = .ok (.aload_n 0, 1) := by decide +kernel
theorem dX1_firstAt_13 : decode cX1_firstAt 13 = .ok (.getfield 34, 3) := by decide +kernel
theorem dX1_firstAt_16 : decode cX1_firstAt 16 = .ok (.if_icmp .lt 5, 3) := by decide +kernel
theorem dX1_firstAt_19 : decode cX1_firstAt 19 = .ok (.iconst (-1), 1) := by decide +kernel
theorem dX1_firstAt_20 : decode cX1_firstAt 20 = .ok (.ireturn, 1) := by decide +kernel
theorem dX1_firstAt_21 : decode cX1_firstAt 21 = .ok (.aload_n 0, 1) := by decide +kernel
theorem dX1_firstAt_22 : decode cX1_firstAt 22 = .ok (.getfield 21, 3) := by decide +kernel
theorem dX1_firstAt_25 : decode cX1_firstAt 25 = .ok (.iload_n 1, 1) := by decide +kernel
theorem dX1_firstAt_26 : decode cX1_firstAt 26 = .ok (.iaload, 1) := by decide +kernel
theorem dX1_firstAt_27 : decode cX1_firstAt 27 = .ok (.ireturn, 1) := by decide +kernel
set_option maxRecDepth 20000 in
theorem ggX1_extend_X1_noteRow : GoodIn wsX1_extend wsX1_noteRow := goodIn_r _ [11, 12, 6, 13, 14, 15, 16, 17, 1, 18, 61, 62, 63, 64, 65, 66, 67, 68] (by decide +kernel) (by decide +kernel)
set_option maxRecDepth 20000 in
theorem gX1_extend_X1_noteRow : GoodIn wsX1_extend (wsV RX1 73 RX1 yX1_noteRow wsX1_noteRow) := goodIn_app (goodIn_of _ (by decide +kernel)) ggX1_extend_X1_noteRow
set_option maxRecDepth 20000 in
theorem ggX1_extend_X4_whoAges : GoodIn wsX1_extend wsX4_whoAges := goodIn_r _ [23, 24, 25, 75, 76, 77, 78, 79, 80, 81, 82] (by decide +kernel) (by decide +kernel)
set_option maxRecDepth 20000 in
theorem gX1_extend_X4_whoAges : GoodIn wsX1_extend (wsV RX1 79 RX4 yX4_whoAges wsX4_whoAges) := goodIn_app (goodIn_of _ (by decide +kernel)) ggX1_extend_X4_whoAges
set_option maxRecDepth 20000 in
theorem ggX1_extend_X10_holds : GoodIn wsX1_extend wsX10_holds := goodIn_r _ [28] (by decide +kernel) (by decide +kernel)
set_option maxRecDepth 20000 in
theorem gX1_extend_X10_holds_n59 : GoodIn wsX1_extend (wsX10_holds) := ggX1_extend_X10_holds
set_option maxRecDepth 20000 in
theorem ggX1_extend_X10_older : GoodIn wsX1_extend wsX10_older := goodIn_r _ [30, 31, 32, 33, 34] (by decide +kernel) (by decide +kernel)
set_option maxRecDepth 20000 in
theorem gX1_extend_X10_older_n83 : GoodIn wsX1_extend (wsX10_older) := ggX1_extend_X10_older
set_option maxRecDepth 20000 in
theorem ggX1_extend_X7_drumAfter : GoodIn wsX1_extend wsX7_drumAfter := goodIn_r _ [39, 40, 41, 42, 38, 43, 44, 45, 46, 47, 48, 49, 50, 51, 52, 53, 54, 69, 70, 71, 72, 73, 74] (by decide +kernel) (by decide +kernel)
set_option maxRecDepth 20000 in
theorem gX1_extend_X7_drumAfter : GoodIn wsX1_extend (wsV RX1 86 RX7 yX7_drumAfter wsX7_drumAfter) := goodIn_app (goodIn_of _ (by decide +kernel)) ggX1_extend_X7_drumAfter
set_option maxRecDepth 20000 in
theorem ggX1_extend_X7_drawsAfter : GoodIn wsX1_extend wsX7_drawsAfter := goodIn_r _ [58, 40, 41, 42, 38, 43, 44, 45, 46, 47, 48, 49, 69, 70, 71, 72, 73, 74] (by decide +kernel) (by decide +kernel)
set_option maxRecDepth 20000 in
theorem gX1_extend_X7_drawsAfter : GoodIn wsX1_extend (wsV RX1 90 RX7 yX7_drawsAfter wsX7_drawsAfter) := goodIn_app (goodIn_of _ (by decide +kernel)) ggX1_extend_X7_drawsAfter
set_option maxRecDepth 20000 in
theorem ggX1_extend_X1_extend : GoodIn wsX1_extend wsX1_extend := goodIn_r _ [0, 1, 2, 3, 4, 5, 6, 7, 8, 9, 10, 11, 12, 13, 14, 15, 16, 17, 18, 19, 20, 21, 22, 23, 24, 25, 26, 27, 28, 29, 30, 31, 32, 33, 34, 35, 36, 37, 38, 39, 40, 41, 42, 43, 44, 45, 46, 47, 48, 49, 50, 51, 52, 53, 54, 55, 56, 57, 58, 59, 60, 61, 62, 63, 64, 65, 66, 67, 68, 69, 70, 71, 72, 73, 74, 75, 76, 77, 78, 79, 80, 81, 82] (by decide +kernel) (by decide +kernel)
set_option maxRecDepth 20000 in
theorem gX1_extend_X1_extend : GoodIn wsX1_extend (va_wsS RX1 69 yX1_extend wsX1_extend) := goodIn_app (goodIn_of _ (by decide +kernel)) ggX1_extend_X1_extend
theorem dX1_extend_0 : decode cX1_extend 0 = .ok (.iload 6, 2) := by decide +kernel
theorem dX1_extend_2 : decode cX1_extend 2 = .ok (.aload_n 0, 1) := by decide +kernel
theorem dX1_extend_3 : decode cX1_extend 3 = .ok (.getfield 34, 3) := by decide +kernel
theorem dX1_extend_6 : decode cX1_extend 6 = .ok (.iload_n 3, 1) := by decide +kernel
theorem dX1_extend_7 : decode cX1_extend 7 = .ok (.isub, 1) := by decide +kernel
theorem dX1_extend_8 : decode cX1_extend 8 = .ok (.if_icmp .le 4, 3) := by decide +kernel
theorem dX1_extend_11 : decode cX1_extend 11 = .ok (.return_, 1) := by decide +kernel
theorem dX1_extend_12 : decode cX1_extend 12 = .ok (.iload_n 3, 1) := by decide +kernel
theorem dX1_extend_13 : decode cX1_extend 13 = .ok (.aload_n 0, 1) := by decide +kernel
theorem dX1_extend_14 : decode cX1_extend 14 = .ok (.getfield 34, 3) := by decide +kernel
theorem dX1_extend_17 : decode cX1_extend 17 = .ok (.if_icmp .ge 8, 3) := by decide +kernel
theorem dX1_extend_20 : decode cX1_extend 20 = .ok (.iload_n 3, 1) := by decide +kernel
theorem dX1_extend_21 : decode cX1_extend 21 = .ok (.iconst 4, 1) := by decide +kernel
theorem dX1_extend_22 : decode cX1_extend 22 = .ok (.if_icmp .lt 8, 3) := by decide +kernel
theorem dX1_extend_25 : decode cX1_extend 25 = .ok (.aload_n 0, 1) := by decide +kernel
theorem dX1_extend_26 : decode cX1_extend 26 = .ok (.invokevirtual 73, 3) := by decide +kernel
theorem dX1_extend_29 : decode cX1_extend 29 = .ok (.return_, 1) := by decide +kernel
theorem dX1_extend_30 : decode cX1_extend 30 = .ok (.iconst 0, 1) := by decide +kernel
theorem dX1_extend_31 : decode cX1_extend 31 = .ok (.istore 7, 2) := by decide +kernel
theorem dX1_extend_33 : decode cX1_extend 33 = .ok (.iload 7, 2) := by decide +kernel
theorem dX1_extend_35 : decode cX1_extend 35 = .ok (.aload_n 1, 1) := by decide +kernel
theorem dX1_extend_36 : decode cX1_extend 36 = .ok (.getfield 76, 3) := by decide +kernel
theorem dX1_extend_39 : decode cX1_extend 39 = .ok (.if_icmp .ge 174, 3) := by decide +kernel
theorem dX1_extend_42 : decode cX1_extend 42 = .ok (.aload_n 2, 1) := by decide +kernel
theorem dX1_extend_43 : decode cX1_extend 43 = .ok (.iload 7, 2) := by decide +kernel
theorem dX1_extend_45 : decode cX1_extend 45 = .ok (.invokevirtual 79, 3) := by decide +kernel
theorem dX1_extend_48 : decode cX1_extend 48 = .ok (.istore 8, 2) := by decide +kernel
theorem dX1_extend_50 : decode cX1_extend 50 = .ok (.iload 4, 2) := by decide +kernel
theorem dX1_extend_52 : decode cX1_extend 52 = .ok (.iload 7, 2) := by decide +kernel
theorem dX1_extend_54 : decode cX1_extend 54 = .ok (.invokestatic 59, 3) := by decide +kernel
theorem dX1_extend_57 : decode cX1_extend 57 = .ok (.ifCond .eq 150, 3) := by decide +kernel
theorem dX1_extend_60 : decode cX1_extend 60 = .ok (.iload 8, 2) := by decide +kernel
theorem dX1_extend_62 : decode cX1_extend 62 = .ok (.ifCond .lt 145, 3) := by decide +kernel
theorem dX1_extend_65 : decode cX1_extend 65 = .ok (.iload 8, 2) := by decide +kernel
theorem dX1_extend_67 : decode cX1_extend 67 = .ok (.bipush 6, 2) := by decide +kernel
theorem dX1_extend_69 : decode cX1_extend 69 = .ok (.if_icmp .lt 6, 3) := by decide +kernel
theorem dX1_extend_72 : decode cX1_extend 72 = .ok (.goto 135, 3) := by decide +kernel
theorem dX1_extend_75 : decode cX1_extend 75 = .ok (.aload_n 0, 1) := by decide +kernel
theorem dX1_extend_76 : decode cX1_extend 76 = .ok (.getfield 15, 3) := by decide +kernel
theorem dX1_extend_79 : decode cX1_extend 79 = .ok (.iload 8, 2) := by decide +kernel
theorem dX1_extend_81 : decode cX1_extend 81 = .ok (.iaload, 1) := by decide +kernel
theorem dX1_extend_82 : decode cX1_extend 82 = .ok (.istore 9, 2) := by decide +kernel
theorem dX1_extend_84 : decode cX1_extend 84 = .ok (.iload 9, 2) := by decide +kernel
theorem dX1_extend_86 : decode cX1_extend 86 = .ok (.invokestatic 83, 3) := by decide +kernel
theorem dX1_extend_89 : decode cX1_extend 89 = .ok (.istore 10, 2) := by decide +kernel
theorem dX1_extend_91 : decode cX1_extend 91 = .ok (.aload_n 0, 1) := by decide +kernel
theorem dX1_extend_92 : decode cX1_extend 92 = .ok (.getfield 24, 3) := by decide +kernel
theorem dX1_extend_95 : decode cX1_extend 95 = .ok (.iload 8, 2) := by decide +kernel
theorem dX1_extend_97 : decode cX1_extend 97 = .ok (.invokestatic 59, 3) := by decide +kernel
theorem dX1_extend_100 : decode cX1_extend 100 = .ok (.istore 11, 2) := by decide +kernel
theorem dX1_extend_102 : decode cX1_extend 102 = .ok (.iload 11, 2) := by decide +kernel
theorem dX1_extend_104 : decode cX1_extend 104 = .ok (.ifCond .eq 18, 3) := by decide +kernel
theorem dX1_extend_107 : decode cX1_extend 107 = .ok (.iload 10, 2) := by decide +kernel
theorem dX1_extend_109 : decode cX1_extend 109 = .ok (.aload_n 0, 1) := by decide +kernel
theorem dX1_extend_110 : decode cX1_extend 110 = .ok (.getfield 9, 3) := by decide +kernel
theorem dX1_extend_113 : decode cX1_extend 113 = .ok (.iload 8, 2) := by decide +kernel
theorem dX1_extend_115 : decode cX1_extend 115 = .ok (.iaload, 1) := by decide +kernel
theorem dX1_extend_116 : decode cX1_extend 116 = .ok (.if_icmp .le 6, 3) := by decide +kernel
theorem dX1_extend_119 : decode cX1_extend 119 = .ok (.goto 88, 3) := by decide +kernel
theorem dX1_extend_122 : decode cX1_extend 122 = .ok (.aload_n 1, 1) := by decide +kernel
theorem dX1_extend_123 : decode cX1_extend 123 = .ok (.iload 4, 2) := by decide +kernel
theorem dX1_extend_125 : decode cX1_extend 125 = .ok (.iload 5, 2) := by decide +kernel
theorem dX1_extend_127 : decode cX1_extend 127 = .ok (.iload 7, 2) := by decide +kernel
theorem dX1_extend_129 : decode cX1_extend 129 = .ok (.invokevirtual 86, 3) := by decide +kernel
theorem dX1_extend_132 : decode cX1_extend 132 = .ok (.istore 12, 2) := by decide +kernel
theorem dX1_extend_134 : decode cX1_extend 134 = .ok (.aload_n 1, 1) := by decide +kernel
theorem dX1_extend_135 : decode cX1_extend 135 = .ok (.iload 4, 2) := by decide +kernel
theorem dX1_extend_137 : decode cX1_extend 137 = .ok (.iload 5, 2) := by decide +kernel
theorem dX1_extend_139 : decode cX1_extend 139 = .ok (.iload 7, 2) := by decide +kernel
theorem dX1_extend_141 : decode cX1_extend 141 = .ok (.invokevirtual 90, 3) := by decide +kernel
theorem dX1_extend_144 : decode cX1_extend 144 = .ok (.istore 13, 2) := by decide +kernel
theorem dX1_extend_146 : decode cX1_extend 146 = .ok (.iload 11, 2) := by decide +kernel
theorem dX1_extend_148 : decode cX1_extend 148 = .ok (.ifCond .eq 14, 3) := by decide +kernel
theorem dX1_extend_151 : decode cX1_extend 151 = .ok (.iload 6, 2) := by decide +kernel
theorem dX1_extend_153 : decode cX1_extend 153 = .ok (.iload 10, 2) := by decide +kernel
theorem dX1_extend_155 : decode cX1_extend 155 = .ok (.iload 9, 2) := by decide +kernel
theorem dX1_extend_157 : decode cX1_extend 157 = .ok (.isub, 1) := by decide +kernel
theorem dX1_extend_158 : decode cX1_extend 158 = .ok (.isub, 1) := by decide +kernel
theorem dX1_extend_159 : decode cX1_extend 159 = .ok (.goto 5, 3) := by decide +kernel
theorem dX1_extend_162 : decode cX1_extend 162 = .ok (.iload 6, 2) := by decide +kernel
theorem dX1_extend_164 : decode cX1_extend 164 = .ok (.istore 14, 2) := by decide +kernel
theorem dX1_extend_166 : decode cX1_extend 166 = .ok (.aload_n 0, 1) := by decide +kernel
theorem dX1_extend_167 : decode cX1_extend 167 = .ok (.getfield 18, 3) := by decide +kernel
theorem dX1_extend_170 : decode cX1_extend 170 = .ok (.iload_n 3, 1) := by decide +kernel
theorem dX1_extend_171 : decode cX1_extend 171 = .ok (.iload 7, 2) := by decide +kernel
theorem dX1_extend_173 : decode cX1_extend 173 = .ok (.iastore, 1) := by decide +kernel
theorem dX1_extend_174 : decode cX1_extend 174 = .ok (.aload_n 0, 1) := by decide +kernel
theorem dX1_extend_175 : decode cX1_extend 175 = .ok (.getfield 15, 3) := by decide +kernel
theorem dX1_extend_178 : decode cX1_extend 178 = .ok (.iload 8, 2) := by decide +kernel
theorem dX1_extend_180 : decode cX1_extend 180 = .ok (.iload 10, 2) := by decide +kernel
theorem dX1_extend_182 : decode cX1_extend 182 = .ok (.iastore, 1) := by decide +kernel
theorem dX1_extend_183 : decode cX1_extend 183 = .ok (.aload_n 0, 1) := by decide +kernel
theorem dX1_extend_184 : decode cX1_extend 184 = .ok (.aload_n 1, 1) := by decide +kernel
theorem dX1_extend_185 : decode cX1_extend 185 = .ok (.aload_n 2, 1) := by decide +kernel
theorem dX1_extend_186 : decode cX1_extend 186 = .ok (.iload_n 3, 1) := by decide +kernel
theorem dX1_extend_187 : decode cX1_extend 187 = .ok (.iconst 1, 1) := by decide +kernel
theorem dX1_extend_188 : decode cX1_extend 188 = .ok (.iadd, 1) := by decide +kernel
theorem dX1_extend_189 : decode cX1_extend 189 = .ok (.iload 12, 2) := by decide +kernel
theorem dX1_extend_191 : decode cX1_extend 191 = .ok (.iload 13, 2) := by decide +kernel
theorem dX1_extend_193 : decode cX1_extend 193 = .ok (.iload 14, 2) := by decide +kernel
theorem dX1_extend_195 : decode cX1_extend 195 = .ok (.invokestatic 69, 3) := by decide +kernel
theorem dX1_extend_198 : decode cX1_extend 198 = .ok (.aload_n 0, 1) := by decide +kernel
theorem dX1_extend_199 : decode cX1_extend 199 = .ok (.getfield 15, 3) := by decide +kernel
theorem dX1_extend_202 : decode cX1_extend 202 = .ok (.iload 8, 2) := by decide +kernel
theorem dX1_extend_204 : decode cX1_extend 204 = .ok (.iload 9, 2) := by decide +kernel
theorem dX1_extend_206 : decode cX1_extend 206 = .ok (.iastore, 1) := by decide +kernel
theorem dX1_extend_207 : decode cX1_extend 207 = .ok (.iinc 7 1, 3) := by decide +kernel
theorem dX1_extend_210 : decode cX1_extend 210 = .ok (.goto (-177), 3) := by decide +kernel
theorem dX1_extend_213 : decode cX1_extend 213 = .ok (.return_, 1) := by decide +kernel
theorem dX1_noteRow_0 : decode cX1_noteRow 0 = .ok (.aload_n 0, 1) := by decide +kernel
theorem dX1_noteRow_1 : decode cX1_noteRow 1 = .ok (.getfield 28, 3) := by decide +kernel
theorem dX1_noteRow_4 : decode cX1_noteRow 4 = .ok (.ifCond .ne 17, 3) := by decide +kernel
theorem dX1_noteRow_7 : decode cX1_noteRow 7 = .ok (.aload_n 0, 1) := by decide +kernel
theorem dX1_noteRow_8 : decode cX1_noteRow 8 = .ok (.getfield 18, 3) := by decide +kernel
theorem dX1_noteRow_11 : decode cX1_noteRow 11 = .ok (.iconst 0, 1) := by decide +kernel
theorem dX1_noteRow_12 : decode cX1_noteRow 12 = .ok (.aload_n 0, 1) := by decide +kernel
theorem dX1_noteRow_13 : decode cX1_noteRow 13 = .ok (.getfield 21, 3) := by decide +kernel
theorem dX1_noteRow_16 : decode cX1_noteRow 16 = .ok (.iconst 0, 1) := by decide +kernel
theorem dX1_noteRow_17 : decode cX1_noteRow 17 = .ok (.iconst 4, 1) := by decide +kernel
theorem dX1_noteRow_18 : decode cX1_noteRow 18 = .ok (.invokestatic 40, 3) := by decide +kernel
theorem dX1_noteRow_21 : decode cX1_noteRow 21 = .ok (.aload_n 0, 1) := by decide +kernel
theorem dX1_noteRow_22 : decode cX1_noteRow 22 = .ok (.dup, 1) := by decide +kernel
theorem dX1_noteRow_23 : decode cX1_noteRow 23 = .ok (.getfield 28, 3) := by decide +kernel
theorem dX1_noteRow_26 : decode cX1_noteRow 26 = .ok (.iconst 1, 1) := by decide +kernel
theorem dX1_noteRow_27 : decode cX1_noteRow 27 = .ok (.iadd, 1) := by decide +kernel
theorem dX1_noteRow_28 : decode cX1_noteRow 28 = .ok (.putfield 28, 3) := by decide +kernel
theorem dX1_noteRow_31 : decode cX1_noteRow 31 = .ok (.iconst 0, 1) := by decide +kernel
theorem dX1_noteRow_32 : decode cX1_noteRow 32 = .ok (.istore_n 1, 1) := by decide +kernel
theorem dX1_noteRow_33 : decode cX1_noteRow 33 = .ok (.iconst 0, 1) := by decide +kernel
theorem dX1_noteRow_34 : decode cX1_noteRow 34 = .ok (.istore_n 2, 1) := by decide +kernel
theorem dX1_noteRow_35 : decode cX1_noteRow 35 = .ok (.iload_n 2, 1) := by decide +kernel
theorem dX1_noteRow_36 : decode cX1_noteRow 36 = .ok (.aload_n 0, 1) := by decide +kernel
theorem dX1_noteRow_37 : decode cX1_noteRow 37 = .ok (.getfield 34, 3) := by decide +kernel
theorem dX1_noteRow_40 : decode cX1_noteRow 40 = .ok (.if_icmp .ge 20, 3) := by decide +kernel
theorem dX1_noteRow_43 : decode cX1_noteRow 43 = .ok (.iload_n 1, 1) := by decide +kernel
theorem dX1_noteRow_44 : decode cX1_noteRow 44 = .ok (.iconst 1, 1) := by decide +kernel
theorem dX1_noteRow_45 : decode cX1_noteRow 45 = .ok (.aload_n 0, 1) := by decide +kernel
theorem dX1_noteRow_46 : decode cX1_noteRow 46 = .ok (.getfield 18, 3) := by decide +kernel
theorem dX1_noteRow_49 : decode cX1_noteRow 49 = .ok (.iload_n 2, 1) := by decide +kernel
theorem dX1_noteRow_50 : decode cX1_noteRow 50 = .ok (.iaload, 1) := by decide +kernel
theorem dX1_noteRow_51 : decode cX1_noteRow 51 = .ok (.ishl, 1) := by decide +kernel
theorem dX1_noteRow_52 : decode cX1_noteRow 52 = .ok (.ior, 1) := by decide +kernel
theorem dX1_noteRow_53 : decode cX1_noteRow 53 = .ok (.istore_n 1, 1) := by decide +kernel
theorem dX1_noteRow_54 : decode cX1_noteRow 54 = .ok (.iinc 2 1, 3) := by decide +kernel
theorem dX1_noteRow_57 : decode cX1_noteRow 57 = .ok (.goto (-22), 3) := by decide +kernel
theorem dX1_noteRow_60 : decode cX1_noteRow 60 = .ok (.aload_n 0, 1) := by decide +kernel
theorem dX1_noteRow_61 : decode cX1_noteRow 61 = .ok (.dup, 1) := by decide +kernel
theorem dX1_noteRow_62 : decode cX1_noteRow 62 = .ok (.getfield 31, 3) := by decide +kernel
theorem dX1_noteRow_65 : decode cX1_noteRow 65 = .ok (.iload_n 1, 1) := by decide +kernel
theorem dX1_noteRow_66 : decode cX1_noteRow 66 = .ok (.iand, 1) := by decide +kernel
theorem dX1_noteRow_67 : decode cX1_noteRow 67 = .ok (.putfield 31, 3) := by decide +kernel
theorem dX1_noteRow_70 : decode cX1_noteRow 70 = .ok (.return_, 1) := by decide +kernel
theorem dX2_init_0 : decode cX2_init 0 = .ok (.aload_n 0, 1) := by decide +kernel
theorem dX2_init_1 : decode cX2_init 1 = .ok (.invokespecial 3, 3) := by decide +kernel
theorem dX2_init_4 : decode cX2_init 4 = .ok (.aload_n 0, 1) := by decide +kernel
theorem dX2_init_5 : decode cX2_init 5 = .ok (.sipush 256, 3) := by decide +kernel
theorem dX2_init_8 : decode cX2_init 8 = .ok (.newarray .long, 2) := by decide +kernel
theorem dX2_init_10 : decode cX2_init 10 = .ok (.putfield 9, 3) := by decide +kernel
theorem dX2_init_13 : decode cX2_init 13 = .ok (.aload_n 0, 1) := by decide +kernel
theorem dX2_init_14 : decode cX2_init 14 = .ok (.bipush 70, 2) := by decide +kernel
theorem dX2_init_16 : decode cX2_init 16 = .ok (.newarray .int, 2) := by decide +kernel
theorem dX2_init_18 : decode cX2_init 18 = .ok (.putfield 15, 3) := by decide +kernel
theorem dX2_init_21 : decode cX2_init 21 = .ok (.aload_n 0, 1) := by decide +kernel
theorem dX2_init_22 : decode cX2_init 22 = .ok (.bipush 9, 2) := by decide +kernel
theorem dX2_init_24 : decode cX2_init 24 = .ok (.newarray .long, 2) := by decide +kernel
theorem dX2_init_26 : decode cX2_init 26 = .ok (.putfield 19, 3) := by decide +kernel
theorem dX2_init_29 : decode cX2_init 29 = .ok (.aload_n 0, 1) := by decide +kernel
theorem dX2_init_30 : decode cX2_init 30 = .ok (.iconst 0, 1) := by decide +kernel
theorem dX2_init_31 : decode cX2_init 31 = .ok (.putfield 22, 3) := by decide +kernel
theorem dX2_init_34 : decode cX2_init 34 = .ok (.aload_n 0, 1) := by decide +kernel
theorem dX2_init_35 : decode cX2_init 35 = .ok (.iconst 0, 1) := by decide +kernel
theorem dX2_init_36 : decode cX2_init 36 = .ok (.putfield 26, 3) := by decide +kernel
theorem dX2_init_39 : decode cX2_init 39 = .ok (.aload_n 0, 1) := by decide +kernel
theorem dX2_init_40 : decode cX2_init 40 = .ok (.iconst 0, 1) := by decide +kernel
theorem dX2_init_41 : decode cX2_init 41 = .ok (.putfield 29, 3) := by decide +kernel
theorem dX2_init_44 : decode cX2_init 44 = .ok (.return_, 1) := by decide +kernel
set_option maxRecDepth 20000 in
theorem ggX2_begin_J6_bitCount_0f7a4 : GoodIn wsX2_begin wsJ6_bitCount_0f7a4 := goodIn_r _ [11, 12, 13, 14] (by decide +kernel) (by decide +kernel)
set_option maxRecDepth 20000 in
theorem gX2_begin_J6_bitCount_0f7a4 : GoodIn wsX2_begin (va_wsS RX2 38 yJ6_bitCount_0f7a4 wsJ6_bitCount_0f7a4) := goodIn_app (goodIn_of _ (by decide +kernel)) ggX2_begin_J6_bitCount_0f7a4
set_option maxRecDepth 20000 in
theorem ggX2_begin_X2_partSets : GoodIn wsX2_begin wsX2_partSets := goodIn_r _ [19, 20, 21, 1, 22, 7, 23, 24, 25, 26, 27, 8, 9, 10, 11, 12, 13, 14, 28, 29, 30, 18, 31, 32, 33, 34, 35, 36, 37, 38, 39, 40, 41, 42, 43, 44, 45, 46, 47, 48, 49, 50, 51, 52, 53, 54, 55] (by decide +kernel) (by decide +kernel)
set_option maxRecDepth 20000 in
theorem gX2_begin_X2_partSets : GoodIn wsX2_begin (wsV RX2 50 RX2 yX2_partSets wsX2_partSets) := goodIn_app (goodIn_of _ (by decide +kernel)) ggX2_begin_X2_partSets
theorem dX2_begin_0 : decode cX2_begin 0 = .ok (.aload_n 0, 1) := by decide +kernel
theorem dX2_begin_1 : decode cX2_begin 1 = .ok (.iload_n 2, 1) := by decide +kernel
theorem dX2_begin_2 : decode cX2_begin 2 = .ok (.putfield 22, 3) := by decide +kernel
theorem dX2_begin_5 : decode cX2_begin 5 = .ok (.aload_n 0, 1) := by decide +kernel
theorem dX2_begin_6 : decode cX2_begin 6 = .ok (.aload_n 1, 1) := by decide +kernel
theorem dX2_begin_7 : decode cX2_begin 7 = .ok (.getfield 32, 3) := by decide +kernel
theorem dX2_begin_10 : decode cX2_begin 10 = .ok (.ifCond .eq 7, 3) := by decide +kernel
theorem dX2_begin_13 : decode cX2_begin 13 = .ok (.iload_n 3, 1) := by decide +kernel
theorem dX2_begin_14 : decode cX2_begin 14 = .ok (.goto 11, 3) := by decide +kernel
theorem dX2_begin_17 : decode cX2_begin 17 = .ok (.iload_n 3, 1) := by decide +kernel
theorem dX2_begin_18 : decode cX2_begin 18 = .ok (.iload_n 2, 1) := by decide +kernel
theorem dX2_begin_19 : decode cX2_begin 19 = .ok (.invokestatic 38, 3) := by decide +kernel
theorem dX2_begin_22 : decode cX2_begin 22 = .ok (.invokestatic 44, 3) := by decide +kernel
theorem dX2_begin_25 : decode cX2_begin 25 = .ok (.putfield 26, 3) := by decide +kernel
theorem dX2_begin_28 : decode cX2_begin 28 = .ok (.aload_n 1, 1) := by decide +kernel
theorem dX2_begin_29 : decode cX2_begin 29 = .ok (.getfield 32, 3) := by decide +kernel
theorem dX2_begin_32 : decode cX2_begin 32 = .ok (.ifCond .ne 8, 3) := by decide +kernel
theorem dX2_begin_35 : decode cX2_begin 35 = .ok (.aload_n 0, 1) := by decide +kernel
theorem dX2_begin_36 : decode cX2_begin 36 = .ok (.aload_n 1, 1) := by decide +kernel
theorem dX2_begin_37 : decode cX2_begin 37 = .ok (.invokevirtual 50, 3) := by decide +kernel
theorem dX2_begin_40 : decode cX2_begin 40 = .ok (.return_, 1) := by decide +kernel
set_option maxRecDepth 20000 in
theorem ggX2_atLeast_X2_atLeastWith : GoodIn wsX2_atLeast wsX2_atLeastWith := goodIn_r _ [6, 7, 8, 9, 10, 11, 12, 13, 14, 15, 16, 17, 18, 19, 20, 21, 22, 23, 24, 25, 26, 27, 28, 49, 50, 51, 52, 53, 54, 43, 44, 45, 46, 47, 48] (by decide +kernel) (by decide +kernel)
set_option maxRecDepth 20000 in
theorem gX2_atLeast_X2_atLeastWith : GoodIn wsX2_atLeast (wsV RX2 54 RX2 yX2_atLeastWith wsX2_atLeastWith) := goodIn_app (goodIn_of _ (by decide +kernel)) ggX2_atLeast_X2_atLeastWith
set_option maxRecDepth 20000 in
theorem ggX2_atLeast_X2_atLeastWithout : GoodIn wsX2_atLeast wsX2_atLeastWithout := goodIn_r _ [32, 33, 9, 34, 35, 36, 37, 38, 39, 40, 41, 42, 49, 50, 51, 52, 53, 54] (by decide +kernel) (by decide +kernel)
set_option maxRecDepth 20000 in
theorem gX2_atLeast_X2_atLeastWithout : GoodIn wsX2_atLeast (wsV RX2 58 RX2 yX2_atLeastWithout wsX2_atLeastWithout) := goodIn_app (goodIn_of _ (by decide +kernel)) ggX2_atLeast_X2_atLeastWithout
theorem dX2_atLeast_0 : decode cX2_atLeast 0 = .ok (.aload_n 1, 1) := by decide +kernel
theorem dX2_atLeast_1 : decode cX2_atLeast 1 = .ok (.getfield 32, 3) := by decide +kernel
theorem dX2_atLeast_4 : decode cX2_atLeast 4 = .ok (.ifCond .eq 13, 3) := by decide +kernel
theorem dX2_atLeast_7 : decode cX2_atLeast 7 = .ok (.aload_n 0, 1) := by decide +kernel
theorem dX2_atLeast_8 : decode cX2_atLeast 8 = .ok (.aload_n 1, 1) := by decide +kernel
theorem dX2_atLeast_9 : decode cX2_atLeast 9 = .ok (.iload_n 2, 1) := by decide +kernel
theorem dX2_atLeast_10 : decode cX2_atLeast 10 = .ok (.iload_n 3, 1) := by decide +kernel
theorem dX2_atLeast_11 : decode cX2_atLeast 11 = .ok (.invokevirtual 54, 3) := by decide +kernel
theorem dX2_atLeast_14 : decode cX2_atLeast 14 = .ok (.goto 9, 3) := by decide +kernel
theorem dX2_atLeast_17 : decode cX2_atLeast 17 = .ok (.aload_n 0, 1) := by decide +kernel
theorem dX2_atLeast_18 : decode cX2_atLeast 18 = .ok (.iload_n 2, 1) := by decide +kernel
theorem dX2_atLeast_19 : decode cX2_atLeast 19 = .ok (.iload_n 3, 1) := by decide +kernel
theorem dX2_atLeast_20 : decode cX2_atLeast 20 = .ok (.invokevirtual 58, 3) := by decide +kernel
theorem dX2_atLeast_23 : decode cX2_atLeast 23 = .ok (.lreturn, 1) := by decide +kernel
set_option maxRecDepth 20000 in
theorem ggX2_partSets_J7_fill_d0a16 : GoodIn wsX2_partSets wsJ7_fill_d0a16 := goodIn_r _ [10] (by decide +kernel) (by decide +kernel)
set_option maxRecDepth 20000 in
theorem gX2_partSets_J7_fill_d0a16 : GoodIn wsX2_partSets (va_wsS RX2 62 yJ7_fill_d0a16 wsJ7_fill_d0a16) := goodIn_app (goodIn_of _ (by decide +kernel)) ggX2_partSets_J7_fill_d0a16
set_option maxRecDepth 20000 in
theorem ggX2_partSets_J6_bitCount_0f7a4 : GoodIn wsX2_partSets wsJ6_bitCount_0f7a4 := goodIn_r _ [14, 15, 16, 17] (by decide +kernel) (by decide +kernel)
set_option maxRecDepth 20000 in
theorem gX2_partSets_J6_bitCount_0f7a4 : GoodIn wsX2_partSets (va_wsS RX2 38 yJ6_bitCount_0f7a4 wsJ6_bitCount_0f7a4) := goodIn_app (goodIn_of _ (by decide +kernel)) ggX2_partSets_J6_bitCount_0f7a4
set_option maxRecDepth 20000 in
theorem ggX2_partSets_X2_handOn : GoodIn wsX2_partSets wsX2_handOn := goodIn_r _ [22, 23, 1, 24, 25, 26, 27, 28, 29, 30, 31, 32, 33, 34, 41, 42, 43, 44, 45, 46, 35, 36, 37, 38, 39, 40] (by decide +kernel) (by decide +kernel)
set_option maxRecDepth 20000 in
theorem gX2_partSets_X2_handOn : GoodIn wsX2_partSets (wsV RX2 70 RX2 yX2_handOn wsX2_handOn) := goodIn_app (goodIn_of _ (by decide +kernel)) ggX2_partSets_X2_handOn
theorem dX2_partSets_0 : decode cX2_partSets 0 = .ok (.aload_n 0, 1) := by decide +kernel
theorem dX2_partSets_1 : decode cX2_partSets 1 = .ok (.getfield 9, 3) := by decide +kernel
theorem dX2_partSets_4 : decode cX2_partSets 4 = .ok (.lconst 0, 1) := by decide +kernel
theorem dX2_partSets_5 : decode cX2_partSets 5 = .ok (.invokestatic 62, 3) := by decide +kernel
theorem dX2_partSets_8 : decode cX2_partSets 8 = .ok (.aload_n 0, 1) := by decide +kernel
theorem dX2_partSets_9 : decode cX2_partSets 9 = .ok (.iconst 0, 1) := by decide +kernel
theorem dX2_partSets_10 : decode cX2_partSets 10 = .ok (.putfield 29, 3) := by decide +kernel
theorem dX2_partSets_13 : decode cX2_partSets 13 = .ok (.aload_n 0, 1) := by decide +kernel
theorem dX2_partSets_14 : decode cX2_partSets 14 = .ok (.getfield 22, 3) := by decide +kernel
theorem dX2_partSets_17 : decode cX2_partSets 17 = .ok (.ifCond .lt 15, 3) := by decide +kernel
theorem dX2_partSets_20 : decode cX2_partSets 20 = .ok (.aload_n 0, 1) := by decide +kernel
theorem dX2_partSets_21 : decode cX2_partSets 21 = .ok (.getfield 22, 3) := by decide +kernel
theorem dX2_partSets_24 : decode cX2_partSets 24 = .ok (.aload_n 0, 1) := by decide +kernel
theorem dX2_partSets_25 : decode cX2_partSets 25 = .ok (.getfield 9, 3) := by decide +kernel
theorem dX2_partSets_28 : decode cX2_partSets 28 = .ok (.arraylength, 1) := by decide +kernel
theorem dX2_partSets_29 : decode cX2_partSets 29 = .ok (.if_icmp .lt 4, 3) := by decide +kernel
theorem dX2_partSets_32 : decode cX2_partSets 32 = .ok (.return_, 1) := by decide +kernel
theorem dX2_partSets_33 : decode cX2_partSets 33 = .ok (.aload_n 0, 1) := by decide +kernel
theorem dX2_partSets_34 : decode cX2_partSets 34 = .ok (.getfield 9, 3) := by decide +kernel
theorem dX2_partSets_37 : decode cX2_partSets 37 = .ok (.aload_n 0, 1) := by decide +kernel
theorem dX2_partSets_38 : decode cX2_partSets 38 = .ok (.getfield 22, 3) := by decide +kernel
theorem dX2_partSets_41 : decode cX2_partSets 41 = .ok (.ldc2_w 68, 3) := by decide +kernel
theorem dX2_partSets_44 : decode cX2_partSets 44 = .ok (.lastore, 1) := by decide +kernel
theorem dX2_partSets_45 : decode cX2_partSets 45 = .ok (.aload_n 0, 1) := by decide +kernel
theorem dX2_partSets_46 : decode cX2_partSets 46 = .ok (.getfield 22, 3) := by decide +kernel
theorem dX2_partSets_49 : decode cX2_partSets 49 = .ok (.invokestatic 38, 3) := by decide +kernel
theorem dX2_partSets_52 : decode cX2_partSets 52 = .ok (.aload_n 0, 1) := by decide +kernel
theorem dX2_partSets_53 : decode cX2_partSets 53 = .ok (.getfield 26, 3) := by decide +kernel
theorem dX2_partSets_56 : decode cX2_partSets 56 = .ok (.isub, 1) := by decide +kernel
theorem dX2_partSets_57 : decode cX2_partSets 57 = .ok (.istore_n 2, 1) := by decide +kernel
theorem dX2_partSets_58 : decode cX2_partSets 58 = .ok (.aload_n 0, 1) := by decide +kernel
theorem dX2_partSets_59 : decode cX2_partSets 59 = .ok (.getfield 22, 3) := by decide +kernel
theorem dX2_partSets_62 : decode cX2_partSets 62 = .ok (.istore_n 3, 1) := by decide +kernel
theorem dX2_partSets_63 : decode cX2_partSets 63 = .ok (.iload_n 3, 1) := by decide +kernel
theorem dX2_partSets_64 : decode cX2_partSets 64 = .ok (.ifCond .lt 69, 3) := by decide +kernel
theorem dX2_partSets_67 : decode cX2_partSets 67 = .ok (.aload_n 0, 1) := by decide +kernel
theorem dX2_partSets_68 : decode cX2_partSets 68 = .ok (.getfield 9, 3) := by decide +kernel
theorem dX2_partSets_71 : decode cX2_partSets 71 = .ok (.iload_n 3, 1) := by decide +kernel
theorem dX2_partSets_72 : decode cX2_partSets 72 = .ok (.laload, 1) := by decide +kernel
theorem dX2_partSets_73 : decode cX2_partSets 73 = .ok (.lconst 0, 1) := by decide +kernel
theorem dX2_partSets_74 : decode cX2_partSets 74 = .ok (.lcmp, 1) := by decide +kernel
theorem dX2_partSets_75 : decode cX2_partSets 75 = .ok (.ifCond .ne 6, 3) := by decide +kernel
theorem dX2_partSets_78 : decode cX2_partSets 78 = .ok (.goto 49, 3) := by decide +kernel
theorem dX2_partSets_81 : decode cX2_partSets 81 = .ok (.iload_n 3, 1) := by decide +kernel
theorem dX2_partSets_82 : decode cX2_partSets 82 = .ok (.invokestatic 38, 3) := by decide +kernel
theorem dX2_partSets_85 : decode cX2_partSets 85 = .ok (.iload_n 2, 1) := by decide +kernel
theorem dX2_partSets_86 : decode cX2_partSets 86 = .ok (.if_icmp .le 12, 3) := by decide +kernel
theorem dX2_partSets_89 : decode cX2_partSets 89 = .ok (.aload_n 0, 1) := by decide +kernel
theorem dX2_partSets_90 : decode cX2_partSets 90 = .ok (.aload_n 1, 1) := by decide +kernel
theorem dX2_partSets_91 : decode cX2_partSets 91 = .ok (.iload_n 3, 1) := by decide +kernel
theorem dX2_partSets_92 : decode cX2_partSets 92 = .ok (.invokevirtual 70, 3) := by decide +kernel
theorem dX2_partSets_95 : decode cX2_partSets 95 = .ok (.goto 32, 3) := by decide +kernel
theorem dX2_partSets_98 : decode cX2_partSets 98 = .ok (.aload_n 0, 1) := by decide +kernel
theorem dX2_partSets_99 : decode cX2_partSets 99 = .ok (.getfield 29, 3) := by decide +kernel
theorem dX2_partSets_102 : decode cX2_partSets 102 = .ok (.bipush 70, 2) := by decide +kernel
theorem dX2_partSets_104 : decode cX2_partSets 104 = .ok (.if_icmp .ge 23, 3) := by decide +kernel
theorem dX2_partSets_107 : decode cX2_partSets 107 = .ok (.aload_n 0, 1) := by decide +kernel
theorem dX2_partSets_108 : decode cX2_partSets 108 = .ok (.getfield 15, 3) := by decide +kernel
theorem dX2_partSets_111 : decode cX2_partSets 111 = .ok (.aload_n 0, 1) := by decide +kernel
theorem dX2_partSets_112 : decode cX2_partSets 112 = .ok (.getfield 29, 3) := by decide +kernel
theorem dX2_partSets_115 : decode cX2_partSets 115 = .ok (.iload_n 3, 1) := by decide +kernel
theorem dX2_partSets_116 : decode cX2_partSets 116 = .ok (.iastore, 1) := by decide +kernel
theorem dX2_partSets_117 : decode cX2_partSets 117 = .ok (.aload_n 0, 1) := by decide +kernel
theorem dX2_partSets_118 : decode cX2_partSets 118 = .ok (.dup, 1) := by decide +kernel
theorem dX2_partSets_119 : decode cX2_partSets 119 = .ok (.getfield 29, 3) := by decide +kernel
theorem dX2_partSets_122 : decode cX2_partSets 122 = .ok (.iconst 1, 1) := by decide +kernel
theorem dX2_partSets_123 : decode cX2_partSets 123 = .ok (.iadd, 1) := by decide +kernel
theorem dX2_partSets_124 : decode cX2_partSets 124 = .ok (.putfield 29, 3) := by decide +kernel
theorem dX2_partSets_127 : decode cX2_partSets 127 = .ok (.iinc 3 (-1), 3) := by decide +kernel
theorem dX2_partSets_130 : decode cX2_partSets 130 = .ok (.goto (-67), 3) := by decide +kernel
theorem dX2_partSets_133 : decode cX2_partSets 133 = .ok (.return_, 1) := by decide +kernel
set_option maxRecDepth 20000 in
theorem ggX2_handOn_X7_weightOf : GoodIn wsX2_handOn wsX7_weightOf := goodIn_r _ [8, 9, 10, 11, 12, 13, 14, 15, 16, 17, 18, 19] (by decide +kernel) (by decide +kernel)
set_option maxRecDepth 20000 in
theorem gX2_handOn_X7_weightOf : GoodIn wsX2_handOn (wsV RX2 74 RX7 yX7_weightOf wsX7_weightOf) := goodIn_app (goodIn_of _ (by decide +kernel)) ggX2_handOn_X7_weightOf
set_option maxRecDepth 20000 in
theorem ggX2_handOn_X10_holds : GoodIn wsX2_handOn wsX10_holds := goodIn_r _ [13] (by decide +kernel) (by decide +kernel)
set_option maxRecDepth 20000 in
theorem gX2_handOn_X10_holds_n80 : GoodIn wsX2_handOn (wsX10_holds) := ggX2_handOn_X10_holds
theorem dX2_handOn_0 : decode cX2_handOn 0 = .ok (.aload_n 1, 1) := by decide +kernel
theorem dX2_handOn_1 : decode cX2_handOn 1 = .ok (.iload_n 2, 1) := by decide +kernel
theorem dX2_handOn_2 : decode cX2_handOn 2 = .ok (.invokevirtual 74, 3) := by decide +kernel
theorem dX2_handOn_5 : decode cX2_handOn 5 = .ok (.istore_n 3, 1) := by decide +kernel
theorem dX2_handOn_6 : decode cX2_handOn 6 = .ok (.iload_n 3, 1) := by decide +kernel
theorem dX2_handOn_7 : decode cX2_handOn 7 = .ok (.iconst 1, 1) := by decide +kernel
theorem dX2_handOn_8 : decode cX2_handOn 8 = .ok (.if_icmp .ge 4, 3) := by decide +kernel
theorem dX2_handOn_11 : decode cX2_handOn 11 = .ok (.return_, 1) := by decide +kernel
theorem dX2_handOn_12 : decode cX2_handOn 12 = .ok (.iconst 0, 1) := by decide +kernel
theorem dX2_handOn_13 : decode cX2_handOn 13 = .ok (.istore 4, 2) := by decide +kernel
theorem dX2_handOn_15 : decode cX2_handOn 15 = .ok (.iload 4, 2) := by decide +kernel
theorem dX2_handOn_17 : decode cX2_handOn 17 = .ok (.aload_n 1, 1) := by decide +kernel
theorem dX2_handOn_18 : decode cX2_handOn 18 = .ok (.getfield 77, 3) := by decide +kernel
theorem dX2_handOn_21 : decode cX2_handOn 21 = .ok (.if_icmp .ge 52, 3) := by decide +kernel
theorem dX2_handOn_24 : decode cX2_handOn 24 = .ok (.iload_n 2, 1) := by decide +kernel
theorem dX2_handOn_25 : decode cX2_handOn 25 = .ok (.iload 4, 2) := by decide +kernel
theorem dX2_handOn_27 : decode cX2_handOn 27 = .ok (.invokestatic 80, 3) := by decide +kernel
theorem dX2_handOn_30 : decode cX2_handOn 30 = .ok (.ifCond .eq 37, 3) := by decide +kernel
theorem dX2_handOn_33 : decode cX2_handOn 33 = .ok (.aload_n 0, 1) := by decide +kernel
theorem dX2_handOn_34 : decode cX2_handOn 34 = .ok (.getfield 9, 3) := by decide +kernel
theorem dX2_handOn_37 : decode cX2_handOn 37 = .ok (.iload_n 2, 1) := by decide +kernel
theorem dX2_handOn_38 : decode cX2_handOn 38 = .ok (.iconst 1, 1) := by decide +kernel
theorem dX2_handOn_39 : decode cX2_handOn 39 = .ok (.iload 4, 2) := by decide +kernel
theorem dX2_handOn_41 : decode cX2_handOn 41 = .ok (.ishl, 1) := by decide +kernel
theorem dX2_handOn_42 : decode cX2_handOn 42 = .ok (.iconst (-1), 1) := by decide +kernel
theorem dX2_handOn_43 : decode cX2_handOn 43 = .ok (.ixor, 1) := by decide +kernel
theorem dX2_handOn_44 : decode cX2_handOn 44 = .ok (.iand, 1) := by decide +kernel
theorem dX2_handOn_45 : decode cX2_handOn 45 = .ok (.dup2, 1) := by decide +kernel
theorem dX2_handOn_46 : decode cX2_handOn 46 = .ok (.laload, 1) := by decide +kernel
theorem dX2_handOn_47 : decode cX2_handOn 47 = .ok (.aload_n 0, 1) := by decide +kernel
theorem dX2_handOn_48 : decode cX2_handOn 48 = .ok (.getfield 9, 3) := by decide +kernel
theorem dX2_handOn_51 : decode cX2_handOn 51 = .ok (.iload_n 2, 1) := by decide +kernel
theorem dX2_handOn_52 : decode cX2_handOn 52 = .ok (.laload, 1) := by decide +kernel
theorem dX2_handOn_53 : decode cX2_handOn 53 = .ok (.aload_n 1, 1) := by decide +kernel
theorem dX2_handOn_54 : decode cX2_handOn 54 = .ok (.getfield 84, 3) := by decide +kernel
theorem dX2_handOn_57 : decode cX2_handOn 57 = .ok (.iload 4, 2) := by decide +kernel
theorem dX2_handOn_59 : decode cX2_handOn 59 = .ok (.iaload, 1) := by decide +kernel
theorem dX2_handOn_60 : decode cX2_handOn 60 = .ok (.i2l, 1) := by decide +kernel
theorem dX2_handOn_61 : decode cX2_handOn 61 = .ok (.lmul, 1) := by decide +kernel
theorem dX2_handOn_62 : decode cX2_handOn 62 = .ok (.iload_n 3, 1) := by decide +kernel
theorem dX2_handOn_63 : decode cX2_handOn 63 = .ok (.i2l, 1) := by decide +kernel
theorem dX2_handOn_64 : decode cX2_handOn 64 = .ok (.ldiv, 1) := by decide +kernel
theorem dX2_handOn_65 : decode cX2_handOn 65 = .ok (.ladd, 1) := by decide +kernel
theorem dX2_handOn_66 : decode cX2_handOn 66 = .ok (.lastore, 1) := by decide +kernel
theorem dX2_handOn_67 : decode cX2_handOn 67 = .ok (.iinc 4 1, 3) := by decide +kernel
theorem dX2_handOn_70 : decode cX2_handOn 70 = .ok (.goto (-55), 3) := by decide +kernel
theorem dX2_handOn_73 : decode cX2_handOn 73 = .ok (.return_, 1) := by decide +kernel
set_option maxRecDepth 20000 in
theorem ggX2_atLeastWithout_J6_bitCount_0f7a4 : GoodIn wsX2_atLeastWithout wsJ6_bitCount_0f7a4 := goodIn_r _ [8, 9, 10, 11] (by decide +kernel) (by decide +kernel)
set_option maxRecDepth 20000 in
theorem gX2_atLeastWithout_J6_bitCount_0f7a4 : GoodIn wsX2_atLeastWithout (va_wsS RX2 38 yJ6_bitCount_0f7a4 wsJ6_bitCount_0f7a4) := goodIn_app (goodIn_of _ (by decide +kernel)) ggX2_atLeastWithout_J6_bitCount_0f7a4
theorem dX2_atLeastWithout_0 : decode cX2_atLeastWithout 0 = .ok (.lconst 0, 1) := by decide +kernel
theorem dX2_atLeastWithout_1 : decode cX2_atLeastWithout 1 = .ok (.lstore_n 3, 1) := by decide +kernel
theorem dX2_atLeastWithout_2 : decode cX2_atLeastWithout 2 = .ok (.iconst 0, 1) := by decide +kernel
theorem dX2_atLeastWithout_3 : decode cX2_atLeastWithout 3 = .ok (.istore 5, 2) := by decide +kernel
theorem dX2_atLeastWithout_5 : decode cX2_atLeastWithout 5 = .ok (.iload 5, 2) := by decide +kernel
theorem dX2_atLeastWithout_7 : decode cX2_atLeastWithout 7 = .ok (.aload_n 0, 1) := by decide +kernel
theorem dX2_atLeastWithout_8 : decode cX2_atLeastWithout 8 = .ok (.getfield 29, 3) := by decide +kernel
theorem dX2_atLeastWithout_11 : decode cX2_atLeastWithout 11 = .ok (.if_icmp .ge 51, 3) := by decide +kernel
theorem dX2_atLeastWithout_14 : decode cX2_atLeastWithout 14 = .ok (.aload_n 0, 1) := by decide +kernel
theorem dX2_atLeastWithout_15 : decode cX2_atLeastWithout 15 = .ok (.getfield 22, 3) := by decide +kernel
theorem dX2_atLeastWithout_18 : decode cX2_atLeastWithout 18 = .ok (.aload_n 0, 1) := by decide +kernel
theorem dX2_atLeastWithout_19 : decode cX2_atLeastWithout 19 = .ok (.getfield 15, 3) := by decide +kernel
theorem dX2_atLeastWithout_22 : decode cX2_atLeastWithout 22 = .ok (.iload 5, 2) := by decide +kernel
theorem dX2_atLeastWithout_24 : decode cX2_atLeastWithout 24 = .ok (.iaload, 1) := by decide +kernel
theorem dX2_atLeastWithout_25 : decode cX2_atLeastWithout 25 = .ok (.iconst (-1), 1) := by decide +kernel
theorem dX2_atLeastWithout_26 : decode cX2_atLeastWithout 26 = .ok (.ixor, 1) := by decide +kernel
theorem dX2_atLeastWithout_27 : decode cX2_atLeastWithout 27 = .ok (.iand, 1) := by decide +kernel
theorem dX2_atLeastWithout_28 : decode cX2_atLeastWithout 28 = .ok (.istore 6, 2) := by decide +kernel
theorem dX2_atLeastWithout_30 : decode cX2_atLeastWithout 30 = .ok (.iload 6, 2) := by decide +kernel
theorem dX2_atLeastWithout_32 : decode cX2_atLeastWithout 32 = .ok (.iload_n 1, 1) := by decide +kernel
theorem dX2_atLeastWithout_33 : decode cX2_atLeastWithout 33 = .ok (.iand, 1) := by decide +kernel
theorem dX2_atLeastWithout_34 : decode cX2_atLeastWithout 34 = .ok (.invokestatic 38, 3) := by decide +kernel
theorem dX2_atLeastWithout_37 : decode cX2_atLeastWithout 37 = .ok (.iload_n 2, 1) := by decide +kernel
theorem dX2_atLeastWithout_38 : decode cX2_atLeastWithout 38 = .ok (.if_icmp .lt 18, 3) := by decide +kernel
theorem dX2_atLeastWithout_41 : decode cX2_atLeastWithout 41 = .ok (.lload_n 3, 1) := by decide +kernel
theorem dX2_atLeastWithout_42 : decode cX2_atLeastWithout 42 = .ok (.aload_n 0, 1) := by decide +kernel
theorem dX2_atLeastWithout_43 : decode cX2_atLeastWithout 43 = .ok (.getfield 9, 3) := by decide +kernel
theorem dX2_atLeastWithout_46 : decode cX2_atLeastWithout 46 = .ok (.aload_n 0, 1) := by decide +kernel
theorem dX2_atLeastWithout_47 : decode cX2_atLeastWithout 47 = .ok (.getfield 15, 3) := by decide +kernel
theorem dX2_atLeastWithout_50 : decode cX2_atLeastWithout 50 = .ok (.iload 5, 2) := by decide +kernel
theorem dX2_atLeastWithout_52 : decode cX2_atLeastWithout 52 = .ok (.iaload, 1) := by decide +kernel
theorem dX2_atLeastWithout_53 : decode cX2_atLeastWithout 53 = .ok (.laload, 1) := by decide +kernel
theorem dX2_atLeastWithout_54 : decode cX2_atLeastWithout 54 = .ok (.ladd, 1) := by decide +kernel
theorem dX2_atLeastWithout_55 : decode cX2_atLeastWithout 55 = .ok (.lstore_n 3, 1) := by decide +kernel
theorem dX2_atLeastWithout_56 : decode cX2_atLeastWithout 56 = .ok (.iinc 5 1, 3) := by decide +kernel
theorem dX2_atLeastWithout_59 : decode cX2_atLeastWithout 59 = .ok (.goto (-54), 3) := by decide +kernel
theorem dX2_atLeastWithout_62 : decode cX2_atLeastWithout 62 = .ok (.lload_n 3, 1) := by decide +kernel
theorem dX2_atLeastWithout_63 : decode cX2_atLeastWithout 63 = .ok (.lreturn, 1) := by decide +kernel
set_option maxRecDepth 20000 in
theorem ggX2_atLeastWith_J7_fill_d0a16 : GoodIn wsX2_atLeastWith wsJ7_fill_d0a16 := goodIn_r _ [12] (by decide +kernel) (by decide +kernel)
set_option maxRecDepth 20000 in
theorem gX2_atLeastWith_J7_fill_d0a16 : GoodIn wsX2_atLeastWith (va_wsS RX2 62 yJ7_fill_d0a16 wsJ7_fill_d0a16) := goodIn_app (goodIn_of _ (by decide +kernel)) ggX2_atLeastWith_J7_fill_d0a16
set_option maxRecDepth 20000 in
theorem ggX2_atLeastWith_X7_weightOf : GoodIn wsX2_atLeastWith wsX7_weightOf := goodIn_r _ [17, 18, 19, 20, 21, 22, 29, 30, 31, 32, 33, 34] (by decide +kernel) (by decide +kernel)
set_option maxRecDepth 20000 in
theorem gX2_atLeastWith_X7_weightOf : GoodIn wsX2_atLeastWith (wsV RX2 74 RX7 yX7_weightOf wsX7_weightOf) := goodIn_app (goodIn_of _ (by decide +kernel)) ggX2_atLeastWith_X7_weightOf
theorem dX2_atLeastWith_0 : decode cX2_atLeastWith 0 = .ok (.aload_n 0, 1) := by decide +kernel
theorem dX2_atLeastWith_1 : decode cX2_atLeastWith 1 = .ok (.getfield 19, 3) := by decide +kernel
theorem dX2_atLeastWith_4 : decode cX2_atLeastWith 4 = .ok (.lconst 0, 1) := by decide +kernel
theorem dX2_atLeastWith_5 : decode cX2_atLeastWith 5 = .ok (.invokestatic 62, 3) := by decide +kernel
theorem dX2_atLeastWith_8 : decode cX2_atLeastWith 8 = .ok (.aload_n 0, 1) := by decide +kernel
theorem dX2_atLeastWith_9 : decode cX2_atLeastWith 9 = .ok (.getfield 19, 3) := by decide +kernel
theorem dX2_atLeastWith_12 : decode cX2_atLeastWith 12 = .ok (.iconst 0, 1) := by decide +kernel
theorem dX2_atLeastWith_13 : decode cX2_atLeastWith 13 = .ok (.ldc2_w 68, 3) := by decide +kernel
theorem dX2_atLeastWith_16 : decode cX2_atLeastWith 16 = .ok (.lastore, 1) := by decide +kernel
theorem dX2_atLeastWith_17 : decode cX2_atLeastWith 17 = .ok (.aload_n 1, 1) := by decide +kernel
theorem dX2_atLeastWith_18 : decode cX2_atLeastWith 18 = .ok (.aload_n 0, 1) := by decide +kernel
theorem dX2_atLeastWith_19 : decode cX2_atLeastWith 19 = .ok (.getfield 22, 3) := by decide +kernel
theorem dX2_atLeastWith_22 : decode cX2_atLeastWith 22 = .ok (.invokevirtual 74, 3) := by decide +kernel
theorem dX2_atLeastWith_25 : decode cX2_atLeastWith 25 = .ok (.istore 4, 2) := by decide +kernel
theorem dX2_atLeastWith_27 : decode cX2_atLeastWith 27 = .ok (.aload_n 1, 1) := by decide +kernel
theorem dX2_atLeastWith_28 : decode cX2_atLeastWith 28 = .ok (.iload_n 2, 1) := by decide +kernel
theorem dX2_atLeastWith_29 : decode cX2_atLeastWith 29 = .ok (.invokevirtual 74, 3) := by decide +kernel
theorem dX2_atLeastWith_32 : decode cX2_atLeastWith 32 = .ok (.istore 5, 2) := by decide +kernel
theorem dX2_atLeastWith_34 : decode cX2_atLeastWith 34 = .ok (.iconst 0, 1) := by decide +kernel
theorem dX2_atLeastWith_35 : decode cX2_atLeastWith 35 = .ok (.istore 6, 2) := by decide +kernel
theorem dX2_atLeastWith_37 : decode cX2_atLeastWith 37 = .ok (.iload 6, 2) := by decide +kernel
theorem dX2_atLeastWith_39 : decode cX2_atLeastWith 39 = .ok (.aload_n 0, 1) := by decide +kernel
theorem dX2_atLeastWith_40 : decode cX2_atLeastWith 40 = .ok (.getfield 26, 3) := by decide +kernel
theorem dX2_atLeastWith_43 : decode cX2_atLeastWith 43 = .ok (.if_icmp .ge 79, 3) := by decide +kernel
theorem dX2_atLeastWith_46 : decode cX2_atLeastWith 46 = .ok (.iload 6, 2) := by decide +kernel
theorem dX2_atLeastWith_48 : decode cX2_atLeastWith 48 = .ok (.bipush 8, 2) := by decide +kernel
theorem dX2_atLeastWith_50 : decode cX2_atLeastWith 50 = .ok (.if_icmp .ge 72, 3) := by decide +kernel
theorem dX2_atLeastWith_53 : decode cX2_atLeastWith 53 = .ok (.iload 4, 2) := by decide +kernel
theorem dX2_atLeastWith_55 : decode cX2_atLeastWith 55 = .ok (.ifCond .le 67, 3) := by decide +kernel
theorem dX2_atLeastWith_58 : decode cX2_atLeastWith 58 = .ok (.iload 6, 2) := by decide +kernel
theorem dX2_atLeastWith_60 : decode cX2_atLeastWith 60 = .ok (.istore 7, 2) := by decide +kernel
theorem dX2_atLeastWith_62 : decode cX2_atLeastWith 62 = .ok (.iload 7, 2) := by decide +kernel
theorem dX2_atLeastWith_64 : decode cX2_atLeastWith 64 = .ok (.ifCond .lt 52, 3) := by decide +kernel
theorem dX2_atLeastWith_67 : decode cX2_atLeastWith 67 = .ok (.aload_n 0, 1) := by decide +kernel
theorem dX2_atLeastWith_68 : decode cX2_atLeastWith 68 = .ok (.getfield 19, 3) := by decide +kernel
theorem dX2_atLeastWith_71 : decode cX2_atLeastWith 71 = .ok (.iload 7, 2) := by decide +kernel
theorem dX2_atLeastWith_73 : decode cX2_atLeastWith 73 = .ok (.laload, 1) := by decide +kernel
theorem dX2_atLeastWith_74 : decode cX2_atLeastWith 74 = .ok (.iload 5, 2) := by decide +kernel
theorem dX2_atLeastWith_76 : decode cX2_atLeastWith 76 = .ok (.i2l, 1) := by decide +kernel
theorem dX2_atLeastWith_77 : decode cX2_atLeastWith 77 = .ok (.lmul, 1) := by decide +kernel
theorem dX2_atLeastWith_78 : decode cX2_atLeastWith 78 = .ok (.iload 4, 2) := by decide +kernel
theorem dX2_atLeastWith_80 : decode cX2_atLeastWith 80 = .ok (.i2l, 1) := by decide +kernel
theorem dX2_atLeastWith_81 : decode cX2_atLeastWith 81 = .ok (.ldiv, 1) := by decide +kernel
theorem dX2_atLeastWith_82 : decode cX2_atLeastWith 82 = .ok (.lstore 8, 2) := by decide +kernel
theorem dX2_atLeastWith_84 : decode cX2_atLeastWith 84 = .ok (.aload_n 0, 1) := by decide +kernel
theorem dX2_atLeastWith_85 : decode cX2_atLeastWith 85 = .ok (.getfield 19, 3) := by decide +kernel
theorem dX2_atLeastWith_88 : decode cX2_atLeastWith 88 = .ok (.iload 7, 2) := by decide +kernel
theorem dX2_atLeastWith_90 : decode cX2_atLeastWith 90 = .ok (.iconst 1, 1) := by decide +kernel
theorem dX2_atLeastWith_91 : decode cX2_atLeastWith 91 = .ok (.iadd, 1) := by decide +kernel
theorem dX2_atLeastWith_92 : decode cX2_atLeastWith 92 = .ok (.dup2, 1) := by decide +kernel
theorem dX2_atLeastWith_93 : decode cX2_atLeastWith 93 = .ok (.laload, 1) := by decide +kernel
theorem dX2_atLeastWith_94 : decode cX2_atLeastWith 94 = .ok (.lload 8, 2) := by decide +kernel
theorem dX2_atLeastWith_96 : decode cX2_atLeastWith 96 = .ok (.ladd, 1) := by decide +kernel
theorem dX2_atLeastWith_97 : decode cX2_atLeastWith 97 = .ok (.lastore, 1) := by decide +kernel
theorem dX2_atLeastWith_98 : decode cX2_atLeastWith 98 = .ok (.aload_n 0, 1) := by decide +kernel
theorem dX2_atLeastWith_99 : decode cX2_atLeastWith 99 = .ok (.getfield 19, 3) := by decide +kernel
theorem dX2_atLeastWith_102 : decode cX2_atLeastWith 102 = .ok (.iload 7, 2) := by decide +kernel
theorem dX2_atLeastWith_104 : decode cX2_atLeastWith 104 = .ok (.dup2, 1) := by decide +kernel
theorem dX2_atLeastWith_105 : decode cX2_atLeastWith 105 = .ok (.laload, 1) := by decide +kernel
theorem dX2_atLeastWith_106 : decode cX2_atLeastWith 106 = .ok (.lload 8, 2) := by decide +kernel
theorem dX2_atLeastWith_108 : decode cX2_atLeastWith 108 = .ok (.lsub, 1) := by decide +kernel
theorem dX2_atLeastWith_109 : decode cX2_atLeastWith 109 = .ok (.lastore, 1) := by decide +kernel
theorem dX2_atLeastWith_110 : decode cX2_atLeastWith 110 = .ok (.iinc 7 (-1), 3) := by decide +kernel
theorem dX2_atLeastWith_113 : decode cX2_atLeastWith 113 = .ok (.goto (-51), 3) := by decide +kernel
theorem dX2_atLeastWith_116 : decode cX2_atLeastWith 116 = .ok (.iinc 6 1, 3) := by decide +kernel
theorem dX2_atLeastWith_119 : decode cX2_atLeastWith 119 = .ok (.goto (-82), 3) := by decide +kernel
theorem dX2_atLeastWith_122 : decode cX2_atLeastWith 122 = .ok (.lconst 0, 1) := by decide +kernel
theorem dX2_atLeastWith_123 : decode cX2_atLeastWith 123 = .ok (.lstore 6, 2) := by decide +kernel
theorem dX2_atLeastWith_125 : decode cX2_atLeastWith 125 = .ok (.iconst 0, 1) := by decide +kernel
theorem dX2_atLeastWith_126 : decode cX2_atLeastWith 126 = .ok (.iload_n 3, 1) := by decide +kernel
theorem dX2_atLeastWith_127 : decode cX2_atLeastWith 127 = .ok (.invokestatic 87, 3) := by decide +kernel
theorem dX2_atLeastWith_130 : decode cX2_atLeastWith 130 = .ok (.istore 8, 2) := by decide +kernel
theorem dX2_atLeastWith_132 : decode cX2_atLeastWith 132 = .ok (.iload 8, 2) := by decide +kernel
theorem dX2_atLeastWith_134 : decode cX2_atLeastWith 134 = .ok (.bipush 8, 2) := by decide +kernel
theorem dX2_atLeastWith_136 : decode cX2_atLeastWith 136 = .ok (.if_icmp .gt 21, 3) := by decide +kernel
theorem dX2_atLeastWith_139 : decode cX2_atLeastWith 139 = .ok (.lload 6, 2) := by decide +kernel
theorem dX2_atLeastWith_141 : decode cX2_atLeastWith 141 = .ok (.aload_n 0, 1) := by decide +kernel
theorem dX2_atLeastWith_142 : decode cX2_atLeastWith 142 = .ok (.getfield 19, 3) := by decide +kernel
theorem dX2_atLeastWith_145 : decode cX2_atLeastWith 145 = .ok (.iload 8, 2) := by decide +kernel
theorem dX2_atLeastWith_147 : decode cX2_atLeastWith 147 = .ok (.laload, 1) := by decide +kernel
theorem dX2_atLeastWith_148 : decode cX2_atLeastWith 148 = .ok (.ladd, 1) := by decide +kernel
theorem dX2_atLeastWith_149 : decode cX2_atLeastWith 149 = .ok (.lstore 6, 2) := by decide +kernel
theorem dX2_atLeastWith_151 : decode cX2_atLeastWith 151 = .ok (.iinc 8 1, 3) := by decide +kernel
theorem dX2_atLeastWith_154 : decode cX2_atLeastWith 154 = .ok (.goto (-22), 3) := by decide +kernel
theorem dX2_atLeastWith_157 : decode cX2_atLeastWith 157 = .ok (.lload 6, 2) := by decide +kernel
theorem dX2_atLeastWith_159 : decode cX2_atLeastWith 159 = .ok (.lreturn, 1) := by decide +kernel
theorem dX3_init_0 : decode cX3_init 0 = .ok (.aload_n 0, 1) := by decide +kernel
theorem dX3_init_1 : decode cX3_init 1 = .ok (.invokespecial 3, 3) := by decide +kernel
theorem dX3_init_4 : decode cX3_init 4 = .ok (.aload_n 0, 1) := by decide +kernel
theorem dX3_init_5 : decode cX3_init 5 = .ok (.iconst 2, 1) := by decide +kernel
theorem dX3_init_6 : decode cX3_init 6 = .ok (.bipush 39, 2) := by decide +kernel
theorem dX3_init_8 : decode cX3_init 8 = .ok (.multianewarray 11 2, 4) := by decide +kernel
theorem dX3_init_12 : decode cX3_init 12 = .ok (.putfield 13, 3) := by decide +kernel
theorem dX3_init_15 : decode cX3_init 15 = .ok (.aload_n 0, 1) := by decide +kernel
theorem dX3_init_16 : decode cX3_init 16 = .ok (.iconst 2, 1) := by decide +kernel
theorem dX3_init_17 : decode cX3_init 17 = .ok (.newarray .int, 2) := by decide +kernel
theorem dX3_init_19 : decode cX3_init 19 = .ok (.putfield 18, 3) := by decide +kernel
theorem dX3_init_22 : decode cX3_init 22 = .ok (.aload_n 0, 1) := by decide +kernel
theorem dX3_init_23 : decode cX3_init 23 = .ok (.iconst 0, 1) := by decide +kernel
theorem dX3_init_24 : decode cX3_init 24 = .ok (.putfield 22, 3) := by decide +kernel
theorem dX3_init_27 : decode cX3_init 27 = .ok (.return_, 1) := by decide +kernel
theorem dX3_clear_0 : decode cX3_clear 0 = .ok (.aload_n 0, 1) := by decide +kernel
theorem dX3_clear_1 : decode cX3_clear 1 = .ok (.iconst 0, 1) := by decide +kernel
theorem dX3_clear_2 : decode cX3_clear 2 = .ok (.putfield 22, 3) := by decide +kernel
theorem dX3_clear_5 : decode cX3_clear 5 = .ok (.return_, 1) := by decide +kernel
set_option maxRecDepth 20000 in
theorem ggX3_has_X10_holds : GoodIn wsX3_has wsX10_holds := goodIn_r _ [4] (by decide +kernel) (by decide +kernel)
set_option maxRecDepth 20000 in
theorem gX3_has_X10_holds_n26 : GoodIn wsX3_has (wsX10_holds) := ggX3_has_X10_holds
theorem dX3_has_0 : decode cX3_has 0 = .ok (.aload_n 0, 1) := by decide +kernel
theorem dX3_has_1 : decode cX3_has 1 = .ok (.getfield 22, 3) := by decide +kernel
theorem dX3_has_4 : decode cX3_has 4 = .ok (.iload_n 1, 1) := by decide +kernel
theorem dX3_has_5 : decode cX3_has 5 = .ok (.invokestatic 26, 3) := by decide +kernel
theorem dX3_has_8 : decode cX3_has 8 = .ok (.ireturn, 1) := by decide +kernel
set_option maxRecDepth 20000 in
theorem ggX3_store_X4_packInto : GoodIn wsX3_store wsX4_packInto := goodIn_r _ [8, 9, 10, 11, 12, 13, 14, 15, 16, 17, 18, 19, 20, 24, 25, 26, 27, 28, 29, 30, 31] (by decide +kernel) (by decide +kernel)
set_option maxRecDepth 20000 in
theorem gX3_store_X4_packInto : GoodIn wsX3_store (wsV RX3 30 RX4 yX4_packInto wsX4_packInto) := goodIn_app (goodIn_of _ (by decide +kernel)) ggX3_store_X4_packInto
theorem dX3_store_0 : decode cX3_store 0 = .ok (.aload_n 2, 1) := by decide +kernel
theorem dX3_store_1 : decode cX3_store 1 = .ok (.aload_n 0, 1) := by decide +kernel
theorem dX3_store_2 : decode cX3_store 2 = .ok (.getfield 13, 3) := by decide +kernel
theorem dX3_store_5 : decode cX3_store 5 = .ok (.iload_n 1, 1) := by decide +kernel
theorem dX3_store_6 : decode cX3_store 6 = .ok (.aaload, 1) := by decide +kernel
theorem dX3_store_7 : decode cX3_store 7 = .ok (.invokevirtual 30, 3) := by decide +kernel
theorem dX3_store_10 : decode cX3_store 10 = .ok (.aload_n 0, 1) := by decide +kernel
theorem dX3_store_11 : decode cX3_store 11 = .ok (.getfield 18, 3) := by decide +kernel
theorem dX3_store_14 : decode cX3_store 14 = .ok (.iload_n 1, 1) := by decide +kernel
theorem dX3_store_15 : decode cX3_store 15 = .ok (.iload_n 3, 1) := by decide +kernel
theorem dX3_store_16 : decode cX3_store 16 = .ok (.iastore, 1) := by decide +kernel
theorem dX3_store_17 : decode cX3_store 17 = .ok (.aload_n 0, 1) := by decide +kernel
theorem dX3_store_18 : decode cX3_store 18 = .ok (.dup, 1) := by decide +kernel
theorem dX3_store_19 : decode cX3_store 19 = .ok (.getfield 22, 3) := by decide +kernel
theorem dX3_store_22 : decode cX3_store 22 = .ok (.iconst 1, 1) := by decide +kernel
theorem dX3_store_23 : decode cX3_store 23 = .ok (.iload_n 1, 1) := by decide +kernel
theorem dX3_store_24 : decode cX3_store 24 = .ok (.ishl, 1) := by decide +kernel
theorem dX3_store_25 : decode cX3_store 25 = .ok (.ior, 1) := by decide +kernel
theorem dX3_store_26 : decode cX3_store 26 = .ok (.putfield 22, 3) := by decide +kernel
theorem dX3_store_29 : decode cX3_store 29 = .ok (.return_, 1) := by decide +kernel
set_option maxRecDepth 20000 in
theorem ggX3_restore_X4_unpackFrom : GoodIn wsX3_restore wsX4_unpackFrom := goodIn_r _ [7, 8, 9, 10, 11, 12, 13, 14, 15, 16, 17, 18, 19, 23, 24, 25, 26, 27, 28, 29, 30] (by decide +kernel) (by decide +kernel)
set_option maxRecDepth 20000 in
theorem gX3_restore_X4_unpackFrom : GoodIn wsX3_restore (wsV RX3 34 RX4 yX4_unpackFrom wsX4_unpackFrom) := goodIn_app (goodIn_of _ (by decide +kernel)) ggX3_restore_X4_unpackFrom
theorem dX3_restore_0 : decode cX3_restore 0 = .ok (.aload_n 2, 1) := by decide +kernel
theorem dX3_restore_1 : decode cX3_restore 1 = .ok (.aload_n 0, 1) := by decide +kernel
theorem dX3_restore_2 : decode cX3_restore 2 = .ok (.getfield 13, 3) := by decide +kernel
theorem dX3_restore_5 : decode cX3_restore 5 = .ok (.iload_n 1, 1) := by decide +kernel
theorem dX3_restore_6 : decode cX3_restore 6 = .ok (.aaload, 1) := by decide +kernel
theorem dX3_restore_7 : decode cX3_restore 7 = .ok (.invokevirtual 34, 3) := by decide +kernel
theorem dX3_restore_10 : decode cX3_restore 10 = .ok (.aload_n 0, 1) := by decide +kernel
theorem dX3_restore_11 : decode cX3_restore 11 = .ok (.getfield 18, 3) := by decide +kernel
theorem dX3_restore_14 : decode cX3_restore 14 = .ok (.iload_n 1, 1) := by decide +kernel
theorem dX3_restore_15 : decode cX3_restore 15 = .ok (.iaload, 1) := by decide +kernel
theorem dX3_restore_16 : decode cX3_restore 16 = .ok (.ireturn, 1) := by decide +kernel
theorem dX4_init_0 : decode cX4_init 0 = .ok (.aload_n 0, 1) := by decide +kernel
theorem dX4_init_1 : decode cX4_init 1 = .ok (.invokespecial 3, 3) := by decide +kernel
theorem dX4_init_4 : decode cX4_init 4 = .ok (.aload_n 0, 1) := by decide +kernel
theorem dX4_init_5 : decode cX4_init 5 = .ok (.bipush 6, 2) := by decide +kernel
theorem dX4_init_7 : decode cX4_init 7 = .ok (.newarray .int, 2) := by decide +kernel
theorem dX4_init_9 : decode cX4_init 9 = .ok (.putfield 9, 3) := by decide +kernel
theorem dX4_init_12 : decode cX4_init 12 = .ok (.aload_n 0, 1) := by decide +kernel
theorem dX4_init_13 : decode cX4_init 13 = .ok (.bipush 6, 2) := by decide +kernel
theorem dX4_init_15 : decode cX4_init 15 = .ok (.newarray .int, 2) := by decide +kernel
theorem dX4_init_17 : decode cX4_init 17 = .ok (.putfield 15, 3) := by decide +kernel
theorem dX4_init_20 : decode cX4_init 20 = .ok (.aload_n 0, 1) := by decide +kernel
theorem dX4_init_21 : decode cX4_init 21 = .ok (.bipush 8, 2) := by decide +kernel
theorem dX4_init_23 : decode cX4_init 23 = .ok (.newarray .int, 2) := by decide +kernel
theorem dX4_init_25 : decode cX4_init 25 = .ok (.putfield 18, 3) := by decide +kernel
theorem dX4_init_28 : decode cX4_init 28 = .ok (.aload_n 0, 1) := by decide +kernel
theorem dX4_init_29 : decode cX4_init 29 = .ok (.bipush 8, 2) := by decide +kernel
theorem dX4_init_31 : decode cX4_init 31 = .ok (.newarray .int, 2) := by decide +kernel
theorem dX4_init_33 : decode cX4_init 33 = .ok (.putfield 21, 3) := by decide +kernel
theorem dX4_init_36 : decode cX4_init 36 = .ok (.aload_n 0, 1) := by decide +kernel
theorem dX4_init_37 : decode cX4_init 37 = .ok (.bipush 8, 2) := by decide +kernel
theorem dX4_init_39 : decode cX4_init 39 = .ok (.newarray .int, 2) := by decide +kernel
theorem dX4_init_41 : decode cX4_init 41 = .ok (.putfield 24, 3) := by decide +kernel
theorem dX4_init_44 : decode cX4_init 44 = .ok (.aload_n 0, 1) := by decide +kernel
theorem dX4_init_45 : decode cX4_init 45 = .ok (.iconst 0, 1) := by decide +kernel
theorem dX4_init_46 : decode cX4_init 46 = .ok (.putfield 27, 3) := by decide +kernel
theorem dX4_init_49 : decode cX4_init 49 = .ok (.aload_n 0, 1) := by decide +kernel
theorem dX4_init_50 : decode cX4_init 50 = .ok (.iconst 0, 1) := by decide +kernel
theorem dX4_init_51 : decode cX4_init 51 = .ok (.putfield 31, 3) := by decide +kernel
theorem dX4_init_54 : decode cX4_init 54 = .ok (.aload_n 0, 1) := by decide +kernel
theorem dX4_init_55 : decode cX4_init 55 = .ok (.iconst 0, 1) := by decide +kernel
theorem dX4_init_56 : decode cX4_init 56 = .ok (.putfield 34, 3) := by decide +kernel
theorem dX4_init_59 : decode cX4_init 59 = .ok (.return_, 1) := by decide +kernel
theorem dX4_copyFrom_0 : decode cX4_copyFrom 0 = .ok (.aload_n 1, 1) := by decide +kernel
theorem dX4_copyFrom_1 : decode cX4_copyFrom 1 = .ok (.getfield 9, 3) := by decide +kernel
theorem dX4_copyFrom_4 : decode cX4_copyFrom 4 = .ok (.iconst 0, 1) := by decide +kernel
theorem dX4_copyFrom_5 : decode cX4_copyFrom 5 = .ok (.aload_n 0, 1) := by decide +kernel
theorem dX4_copyFrom_6 : decode cX4_copyFrom 6 = .ok (.getfield 9, 3) := by decide +kernel
theorem dX4_copyFrom_9 : decode cX4_copyFrom 9 = .ok (.iconst 0, 1) := by decide +kernel
theorem dX4_copyFrom_10 : decode cX4_copyFrom 10 = .ok (.bipush 6, 2) := by decide +kernel
theorem dX4_copyFrom_12 : decode cX4_copyFrom 12 = .ok (.invokestatic 37, 3) := by decide +kernel
theorem dX4_copyFrom_15 : decode cX4_copyFrom 15 = .ok (.aload_n 1, 1) := by decide +kernel
theorem dX4_copyFrom_16 : decode cX4_copyFrom 16 = .ok (.getfield 15, 3) := by decide +kernel
theorem dX4_copyFrom_19 : decode cX4_copyFrom 19 = .ok (.iconst 0, 1) := by decide +kernel
theorem dX4_copyFrom_20 : decode cX4_copyFrom 20 = .ok (.aload_n 0, 1) := by decide +kernel
theorem dX4_copyFrom_21 : decode cX4_copyFrom 21 = .ok (.getfield 15, 3) := by decide +kernel
theorem dX4_copyFrom_24 : decode cX4_copyFrom 24 = .ok (.iconst 0, 1) := by decide +kernel
theorem dX4_copyFrom_25 : decode cX4_copyFrom 25 = .ok (.bipush 6, 2) := by decide +kernel
theorem dX4_copyFrom_27 : decode cX4_copyFrom 27 = .ok (.invokestatic 37, 3) := by decide +kernel
theorem dX4_copyFrom_30 : decode cX4_copyFrom 30 = .ok (.aload_n 1, 1) := by decide +kernel
theorem dX4_copyFrom_31 : decode cX4_copyFrom 31 = .ok (.getfield 18, 3) := by decide +kernel
theorem dX4_copyFrom_34 : decode cX4_copyFrom 34 = .ok (.iconst 0, 1) := by decide +kernel
theorem dX4_copyFrom_35 : decode cX4_copyFrom 35 = .ok (.aload_n 0, 1) := by decide +kernel
theorem dX4_copyFrom_36 : decode cX4_copyFrom 36 = .ok (.getfield 18, 3) := by decide +kernel
theorem dX4_copyFrom_39 : decode cX4_copyFrom 39 = .ok (.iconst 0, 1) := by decide +kernel
theorem dX4_copyFrom_40 : decode cX4_copyFrom 40 = .ok (.bipush 8, 2) := by decide +kernel
theorem dX4_copyFrom_42 : decode cX4_copyFrom 42 = .ok (.invokestatic 37, 3) := by decide +kernel
theorem dX4_copyFrom_45 : decode cX4_copyFrom 45 = .ok (.aload_n 1, 1) := by decide +kernel
theorem dX4_copyFrom_46 : decode cX4_copyFrom 46 = .ok (.getfield 21, 3) := by decide +kernel
theorem dX4_copyFrom_49 : decode cX4_copyFrom 49 = .ok (.iconst 0, 1) := by decide +kernel
theorem dX4_copyFrom_50 : decode cX4_copyFrom 50 = .ok (.aload_n 0, 1) := by decide +kernel
theorem dX4_copyFrom_51 : decode cX4_copyFrom 51 = .ok (.getfield 21, 3) := by decide +kernel
theorem dX4_copyFrom_54 : decode cX4_copyFrom 54 = .ok (.iconst 0, 1) := by decide +kernel
theorem dX4_copyFrom_55 : decode cX4_copyFrom 55 = .ok (.bipush 8, 2) := by decide +kernel
theorem dX4_copyFrom_57 : decode cX4_copyFrom 57 = .ok (.invokestatic 37, 3) := by decide +kernel
theorem dX4_copyFrom_60 : decode cX4_copyFrom 60 = .ok (.aload_n 1, 1) := by decide +kernel
theorem dX4_copyFrom_61 : decode cX4_copyFrom 61 = .ok (.getfield 24, 3) := by decide +kernel
theorem dX4_copyFrom_64 : decode cX4_copyFrom 64 = .ok (.iconst 0, 1) := by decide +kernel
theorem dX4_copyFrom_65 : decode cX4_copyFrom 65 = .ok (.aload_n 0, 1) := by decide +kernel
theorem dX4_copyFrom_66 : decode cX4_copyFrom 66 = .ok (.getfield 24, 3) := by decide +kernel
theorem dX4_copyFrom_69 : decode cX4_copyFrom 69 = .ok (.iconst 0, 1) := by decide +kernel
theorem dX4_copyFrom_70 : decode cX4_copyFrom 70 = .ok (.bipush 8, 2) := by decide +kernel
theorem dX4_copyFrom_72 : decode cX4_copyFrom 72 = .ok (.invokestatic 37, 3) := by decide +kernel
theorem dX4_copyFrom_75 : decode cX4_copyFrom 75 = .ok (.aload_n 0, 1) := by decide +kernel
theorem dX4_copyFrom_76 : decode cX4_copyFrom 76 = .ok (.aload_n 1, 1) := by decide +kernel
theorem dX4_copyFrom_77 : decode cX4_copyFrom 77 = .ok (.getfield 27, 3) := by decide +kernel
theorem dX4_copyFrom_80 : decode cX4_copyFrom 80 = .ok (.putfield 27, 3) := by decide +kernel
theorem dX4_copyFrom_83 : decode cX4_copyFrom 83 = .ok (.aload_n 0, 1) := by decide +kernel
theorem dX4_copyFrom_84 : decode cX4_copyFrom 84 = .ok (.aload_n 1, 1) := by decide +kernel
theorem dX4_copyFrom_85 : decode cX4_copyFrom 85 = .ok (.getfield 31, 3) := by decide +kernel
theorem dX4_copyFrom_88 : decode cX4_copyFrom 88 = .ok (.putfield 31, 3) := by decide +kernel
theorem dX4_copyFrom_91 : decode cX4_copyFrom 91 = .ok (.aload_n 0, 1) := by decide +kernel
theorem dX4_copyFrom_92 : decode cX4_copyFrom 92 = .ok (.aload_n 1, 1) := by decide +kernel
theorem dX4_copyFrom_93 : decode cX4_copyFrom 93 = .ok (.getfield 34, 3) := by decide +kernel
theorem dX4_copyFrom_96 : decode cX4_copyFrom 96 = .ok (.putfield 34, 3) := by decide +kernel
theorem dX4_copyFrom_99 : decode cX4_copyFrom 99 = .ok (.return_, 1) := by decide +kernel
theorem dX4_packInto_0 : decode cX4_packInto 0 = .ok (.aload_n 1, 1) := by decide +kernel
theorem dX4_packInto_1 : decode cX4_packInto 1 = .ok (.arraylength, 1) := by decide +kernel
theorem dX4_packInto_2 : decode cX4_packInto 2 = .ok (.bipush 39, 2) := by decide +kernel
theorem dX4_packInto_4 : decode cX4_packInto 4 = .ok (.if_icmp .ge 4, 3) := by decide +kernel
theorem dX4_packInto_7 : decode cX4_packInto 7 = .ok (.return_, 1) := by decide +kernel
theorem dX4_packInto_8 : decode cX4_packInto 8 = .ok (.aload_n 1, 1) := by decide +kernel
theorem dX4_packInto_9 : decode cX4_packInto 9 = .ok (.iconst 0, 1) := by decide +kernel
theorem dX4_packInto_10 : decode cX4_packInto 10 = .ok (.aload_n 0, 1) := by decide +kernel
theorem dX4_packInto_11 : decode cX4_packInto 11 = .ok (.getfield 27, 3) := by decide +kernel
theorem dX4_packInto_14 : decode cX4_packInto 14 = .ok (.iastore, 1) := by decide +kernel
theorem dX4_packInto_15 : decode cX4_packInto 15 = .ok (.aload_n 1, 1) := by decide +kernel
theorem dX4_packInto_16 : decode cX4_packInto 16 = .ok (.iconst 1, 1) := by decide +kernel
theorem dX4_packInto_17 : decode cX4_packInto 17 = .ok (.aload_n 0, 1) := by decide +kernel
theorem dX4_packInto_18 : decode cX4_packInto 18 = .ok (.getfield 31, 3) := by decide +kernel
theorem dX4_packInto_21 : decode cX4_packInto 21 = .ok (.iastore, 1) := by decide +kernel
theorem dX4_packInto_22 : decode cX4_packInto 22 = .ok (.aload_n 1, 1) := by decide +kernel
theorem dX4_packInto_23 : decode cX4_packInto 23 = .ok (.iconst 2, 1) := by decide +kernel
theorem dX4_packInto_24 : decode cX4_packInto 24 = .ok (.aload_n 0, 1) := by decide +kernel
theorem dX4_packInto_25 : decode cX4_packInto 25 = .ok (.getfield 34, 3) := by decide +kernel
theorem dX4_packInto_28 : decode cX4_packInto 28 = .ok (.iastore, 1) := by decide +kernel
theorem dX4_packInto_29 : decode cX4_packInto 29 = .ok (.aload_n 0, 1) := by decide +kernel
theorem dX4_packInto_30 : decode cX4_packInto 30 = .ok (.getfield 9, 3) := by decide +kernel
theorem dX4_packInto_33 : decode cX4_packInto 33 = .ok (.iconst 0, 1) := by decide +kernel
theorem dX4_packInto_34 : decode cX4_packInto 34 = .ok (.aload_n 1, 1) := by decide +kernel
theorem dX4_packInto_35 : decode cX4_packInto 35 = .ok (.iconst 3, 1) := by decide +kernel
theorem dX4_packInto_36 : decode cX4_packInto 36 = .ok (.bipush 6, 2) := by decide +kernel
theorem dX4_packInto_38 : decode cX4_packInto 38 = .ok (.invokestatic 37, 3) := by decide +kernel
theorem dX4_packInto_41 : decode cX4_packInto 41 = .ok (.aload_n 0, 1) := by decide +kernel
theorem dX4_packInto_42 : decode cX4_packInto 42 = .ok (.getfield 15, 3) := by decide +kernel
theorem dX4_packInto_45 : decode cX4_packInto 45 = .ok (.iconst 0, 1) := by decide +kernel
theorem dX4_packInto_46 : decode cX4_packInto 46 = .ok (.aload_n 1, 1) := by decide +kernel
theorem dX4_packInto_47 : decode cX4_packInto 47 = .ok (.bipush 9, 2) := by decide +kernel
theorem dX4_packInto_49 : decode cX4_packInto 49 = .ok (.bipush 6, 2) := by decide +kernel
theorem dX4_packInto_51 : decode cX4_packInto 51 = .ok (.invokestatic 37, 3) := by decide +kernel
theorem dX4_packInto_54 : decode cX4_packInto 54 = .ok (.bipush 15, 2) := by decide +kernel
theorem dX4_packInto_56 : decode cX4_packInto 56 = .ok (.istore_n 2, 1) := by decide +kernel
theorem dX4_packInto_57 : decode cX4_packInto 57 = .ok (.aload_n 0, 1) := by decide +kernel
theorem dX4_packInto_58 : decode cX4_packInto 58 = .ok (.getfield 18, 3) := by decide +kernel
theorem dX4_packInto_61 : decode cX4_packInto 61 = .ok (.iconst 0, 1) := by decide +kernel
theorem dX4_packInto_62 : decode cX4_packInto 62 = .ok (.aload_n 1, 1) := by decide +kernel
theorem dX4_packInto_63 : decode cX4_packInto 63 = .ok (.iload_n 2, 1) := by decide +kernel
theorem dX4_packInto_64 : decode cX4_packInto 64 = .ok (.bipush 8, 2) := by decide +kernel
theorem dX4_packInto_66 : decode cX4_packInto 66 = .ok (.invokestatic 37, 3) := by decide +kernel
theorem dX4_packInto_69 : decode cX4_packInto 69 = .ok (.aload_n 0, 1) := by decide +kernel
theorem dX4_packInto_70 : decode cX4_packInto 70 = .ok (.getfield 21, 3) := by decide +kernel
theorem dX4_packInto_73 : decode cX4_packInto 73 = .ok (.iconst 0, 1) := by decide +kernel
theorem dX4_packInto_74 : decode cX4_packInto 74 = .ok (.aload_n 1, 1) := by decide +kernel
theorem dX4_packInto_75 : decode cX4_packInto 75 = .ok (.iload_n 2, 1) := by decide +kernel
theorem dX4_packInto_76 : decode cX4_packInto 76 = .ok (.bipush 8, 2) := by decide +kernel
theorem dX4_packInto_78 : decode cX4_packInto 78 = .ok (.iadd, 1) := by decide +kernel
theorem dX4_packInto_79 : decode cX4_packInto 79 = .ok (.bipush 8, 2) := by decide +kernel
theorem dX4_packInto_81 : decode cX4_packInto 81 = .ok (.invokestatic 37, 3) := by decide +kernel
theorem dX4_packInto_84 : decode cX4_packInto 84 = .ok (.aload_n 0, 1) := by decide +kernel
theorem dX4_packInto_85 : decode cX4_packInto 85 = .ok (.getfield 24, 3) := by decide +kernel
theorem dX4_packInto_88 : decode cX4_packInto 88 = .ok (.iconst 0, 1) := by decide +kernel
theorem dX4_packInto_89 : decode cX4_packInto 89 = .ok (.aload_n 1, 1) := by decide +kernel
theorem dX4_packInto_90 : decode cX4_packInto 90 = .ok (.iload_n 2, 1) := by decide +kernel
theorem dX4_packInto_91 : decode cX4_packInto 91 = .ok (.bipush 16, 2) := by decide +kernel
theorem dX4_packInto_93 : decode cX4_packInto 93 = .ok (.iadd, 1) := by decide +kernel
theorem dX4_packInto_94 : decode cX4_packInto 94 = .ok (.bipush 8, 2) := by decide +kernel
theorem dX4_packInto_96 : decode cX4_packInto 96 = .ok (.invokestatic 37, 3) := by decide +kernel
theorem dX4_packInto_99 : decode cX4_packInto 99 = .ok (.return_, 1) := by decide +kernel
theorem dX4_unpackFrom_0 : decode cX4_unpackFrom 0 = .ok (.aload_n 1, 1) := by decide +kernel
theorem dX4_unpackFrom_1 : decode cX4_unpackFrom 1 = .ok (.arraylength, 1) := by decide +kernel
theorem dX4_unpackFrom_2 : decode cX4_unpackFrom 2 = .ok (.bipush 39, 2) := by decide +kernel
theorem dX4_unpackFrom_4 : decode cX4_unpackFrom 4 = .ok (.if_icmp .ge 4, 3) := by decide +kernel
theorem dX4_unpackFrom_7 : decode cX4_unpackFrom 7 = .ok (.return_, 1) := by decide +kernel
theorem dX4_unpackFrom_8 : decode cX4_unpackFrom 8 = .ok (.aload_n 0, 1) := by decide +kernel
theorem dX4_unpackFrom_9 : decode cX4_unpackFrom 9 = .ok (.aload_n 1, 1) := by decide +kernel
theorem dX4_unpackFrom_10 : decode cX4_unpackFrom 10 = .ok (.iconst 0, 1) := by decide +kernel
theorem dX4_unpackFrom_11 : decode cX4_unpackFrom 11 = .ok (.iaload, 1) := by decide +kernel
theorem dX4_unpackFrom_12 : decode cX4_unpackFrom 12 = .ok (.putfield 27, 3) := by decide +kernel
theorem dX4_unpackFrom_15 : decode cX4_unpackFrom 15 = .ok (.aload_n 0, 1) := by decide +kernel
theorem dX4_unpackFrom_16 : decode cX4_unpackFrom 16 = .ok (.aload_n 1, 1) := by decide +kernel
theorem dX4_unpackFrom_17 : decode cX4_unpackFrom 17 = .ok (.iconst 1, 1) := by decide +kernel
theorem dX4_unpackFrom_18 : decode cX4_unpackFrom 18 = .ok (.iaload, 1) := by decide +kernel
theorem dX4_unpackFrom_19 : decode cX4_unpackFrom 19 = .ok (.putfield 31, 3) := by decide +kernel
theorem dX4_unpackFrom_22 : decode cX4_unpackFrom 22 = .ok (.aload_n 0, 1) := by decide +kernel
theorem dX4_unpackFrom_23 : decode cX4_unpackFrom 23 = .ok (.aload_n 1, 1) := by decide +kernel
theorem dX4_unpackFrom_24 : decode cX4_unpackFrom 24 = .ok (.iconst 2, 1) := by decide +kernel
theorem dX4_unpackFrom_25 : decode cX4_unpackFrom 25 = .ok (.iaload, 1) := by decide +kernel
theorem dX4_unpackFrom_26 : decode cX4_unpackFrom 26 = .ok (.putfield 34, 3) := by decide +kernel
theorem dX4_unpackFrom_29 : decode cX4_unpackFrom 29 = .ok (.aload_n 1, 1) := by decide +kernel
theorem dX4_unpackFrom_30 : decode cX4_unpackFrom 30 = .ok (.iconst 3, 1) := by decide +kernel
theorem dX4_unpackFrom_31 : decode cX4_unpackFrom 31 = .ok (.aload_n 0, 1) := by decide +kernel
theorem dX4_unpackFrom_32 : decode cX4_unpackFrom 32 = .ok (.getfield 9, 3) := by decide +kernel
theorem dX4_unpackFrom_35 : decode cX4_unpackFrom 35 = .ok (.iconst 0, 1) := by decide +kernel
theorem dX4_unpackFrom_36 : decode cX4_unpackFrom 36 = .ok (.bipush 6, 2) := by decide +kernel
theorem dX4_unpackFrom_38 : decode cX4_unpackFrom 38 = .ok (.invokestatic 37, 3) := by decide +kernel
theorem dX4_unpackFrom_41 : decode cX4_unpackFrom 41 = .ok (.aload_n 1, 1) := by decide +kernel
theorem dX4_unpackFrom_42 : decode cX4_unpackFrom 42 = .ok (.bipush 9, 2) := by decide +kernel
theorem dX4_unpackFrom_44 : decode cX4_unpackFrom 44 = .ok (.aload_n 0, 1) := by decide +kernel
theorem dX4_unpackFrom_45 : decode cX4_unpackFrom 45 = .ok (.getfield 15, 3) := by decide +kernel
theorem dX4_unpackFrom_48 : decode cX4_unpackFrom 48 = .ok (.iconst 0, 1) := by decide +kernel
theorem dX4_unpackFrom_49 : decode cX4_unpackFrom 49 = .ok (.bipush 6, 2) := by decide +kernel
theorem dX4_unpackFrom_51 : decode cX4_unpackFrom 51 = .ok (.invokestatic 37, 3) := by decide +kernel
theorem dX4_unpackFrom_54 : decode cX4_unpackFrom 54 = .ok (.bipush 15, 2) := by decide +kernel
theorem dX4_unpackFrom_56 : decode cX4_unpackFrom 56 = .ok (.istore_n 2, 1) := by decide +kernel
theorem dX4_unpackFrom_57 : decode cX4_unpackFrom 57 = .ok (.aload_n 1, 1) := by decide +kernel
theorem dX4_unpackFrom_58 : decode cX4_unpackFrom 58 = .ok (.iload_n 2, 1) := by decide +kernel
theorem dX4_unpackFrom_59 : decode cX4_unpackFrom 59 = .ok (.aload_n 0, 1) := by decide +kernel
theorem dX4_unpackFrom_60 : decode cX4_unpackFrom 60 = .ok (.getfield 18, 3) := by decide +kernel
theorem dX4_unpackFrom_63 : decode cX4_unpackFrom 63 = .ok (.iconst 0, 1) := by decide +kernel
theorem dX4_unpackFrom_64 : decode cX4_unpackFrom 64 = .ok (.bipush 8, 2) := by decide +kernel
theorem dX4_unpackFrom_66 : decode cX4_unpackFrom 66 = .ok (.invokestatic 37, 3) := by decide +kernel
theorem dX4_unpackFrom_69 : decode cX4_unpackFrom 69 = .ok (.aload_n 1, 1) := by decide +kernel
theorem dX4_unpackFrom_70 : decode cX4_unpackFrom 70 = .ok (.iload_n 2, 1) := by decide +kernel
theorem dX4_unpackFrom_71 : decode cX4_unpackFrom 71 = .ok (.bipush 8, 2) := by decide +kernel
theorem dX4_unpackFrom_73 : decode cX4_unpackFrom 73 = .ok (.iadd, 1) := by decide +kernel
theorem dX4_unpackFrom_74 : decode cX4_unpackFrom 74 = .ok (.aload_n 0, 1) := by decide +kernel
theorem dX4_unpackFrom_75 : decode cX4_unpackFrom 75 = .ok (.getfield 21, 3) := by decide +kernel
theorem dX4_unpackFrom_78 : decode cX4_unpackFrom 78 = .ok (.iconst 0, 1) := by decide +kernel
theorem dX4_unpackFrom_79 : decode cX4_unpackFrom 79 = .ok (.bipush 8, 2) := by decide +kernel
theorem dX4_unpackFrom_81 : decode cX4_unpackFrom 81 = .ok (.invokestatic 37, 3) := by decide +kernel
theorem dX4_unpackFrom_84 : decode cX4_unpackFrom 84 = .ok (.aload_n 1, 1) := by decide +kernel
theorem dX4_unpackFrom_85 : decode cX4_unpackFrom 85 = .ok (.iload_n 2, 1) := by decide +kernel
theorem dX4_unpackFrom_86 : decode cX4_unpackFrom 86 = .ok (.bipush 16, 2) := by decide +kernel
theorem dX4_unpackFrom_88 : decode cX4_unpackFrom 88 = .ok (.iadd, 1) := by decide +kernel
theorem dX4_unpackFrom_89 : decode cX4_unpackFrom 89 = .ok (.aload_n 0, 1) := by decide +kernel
theorem dX4_unpackFrom_90 : decode cX4_unpackFrom 90 = .ok (.getfield 24, 3) := by decide +kernel
theorem dX4_unpackFrom_93 : decode cX4_unpackFrom 93 = .ok (.iconst 0, 1) := by decide +kernel
theorem dX4_unpackFrom_94 : decode cX4_unpackFrom 94 = .ok (.bipush 8, 2) := by decide +kernel
theorem dX4_unpackFrom_96 : decode cX4_unpackFrom 96 = .ok (.invokestatic 37, 3) := by decide +kernel
theorem dX4_unpackFrom_99 : decode cX4_unpackFrom 99 = .ok (.return_, 1) := by decide +kernel
theorem dX4_whoAges_0 : decode cX4_whoAges 0 = .ok (.iload_n 1, 1) := by decide +kernel
theorem dX4_whoAges_1 : decode cX4_whoAges 1 = .ok (.ifCond .lt 9, 3) := by decide +kernel
theorem dX4_whoAges_4 : decode cX4_whoAges 4 = .ok (.iload_n 1, 1) := by decide +kernel
theorem dX4_whoAges_5 : decode cX4_whoAges 5 = .ok (.bipush 8, 2) := by decide +kernel
theorem dX4_whoAges_7 : decode cX4_whoAges 7 = .ok (.if_icmp .lt 5, 3) := by decide +kernel
theorem dX4_whoAges_10 : decode cX4_whoAges 10 = .ok (.iconst (-1), 1) := by decide +kernel
theorem dX4_whoAges_11 : decode cX4_whoAges 11 = .ok (.ireturn, 1) := by decide +kernel
theorem dX4_whoAges_12 : decode cX4_whoAges 12 = .ok (.aload_n 0, 1) := by decide +kernel
theorem dX4_whoAges_13 : decode cX4_whoAges 13 = .ok (.getfield 21, 3) := by decide +kernel
theorem dX4_whoAges_16 : decode cX4_whoAges 16 = .ok (.iload_n 1, 1) := by decide +kernel
theorem dX4_whoAges_17 : decode cX4_whoAges 17 = .ok (.iaload, 1) := by decide +kernel
theorem dX4_whoAges_18 : decode cX4_whoAges 18 = .ok (.iconst (-1), 1) := by decide +kernel
theorem dX4_whoAges_19 : decode cX4_whoAges 19 = .ok (.if_icmp .ne 12, 3) := by decide +kernel
theorem dX4_whoAges_22 : decode cX4_whoAges 22 = .ok (.aload_n 0, 1) := by decide +kernel
theorem dX4_whoAges_23 : decode cX4_whoAges 23 = .ok (.getfield 18, 3) := by decide +kernel
theorem dX4_whoAges_26 : decode cX4_whoAges 26 = .ok (.iload_n 1, 1) := by decide +kernel
theorem dX4_whoAges_27 : decode cX4_whoAges 27 = .ok (.iaload, 1) := by decide +kernel
theorem dX4_whoAges_28 : decode cX4_whoAges 28 = .ok (.goto 9, 3) := by decide +kernel
theorem dX4_whoAges_31 : decode cX4_whoAges 31 = .ok (.aload_n 0, 1) := by decide +kernel
theorem dX4_whoAges_32 : decode cX4_whoAges 32 = .ok (.getfield 21, 3) := by decide +kernel
theorem dX4_whoAges_35 : decode cX4_whoAges 35 = .ok (.iload_n 1, 1) := by decide +kernel
theorem dX4_whoAges_36 : decode cX4_whoAges 36 = .ok (.iaload, 1) := by decide +kernel
theorem dX4_whoAges_37 : decode cX4_whoAges 37 = .ok (.ireturn, 1) := by decide +kernel
theorem dX4_heldBy_0 : decode cX4_heldBy 0 = .ok (.iconst 0, 1) := by decide +kernel
theorem dX4_heldBy_1 : decode cX4_heldBy 1 = .ok (.istore_n 3, 1) := by decide +kernel
theorem dX4_heldBy_2 : decode cX4_heldBy 2 = .ok (.iconst 0, 1) := by decide +kernel
theorem dX4_heldBy_3 : decode cX4_heldBy 3 = .ok (.istore 4, 2) := by decide +kernel
theorem dX4_heldBy_5 : decode cX4_heldBy 5 = .ok (.iload 4, 2) := by decide +kernel
theorem dX4_heldBy_7 : decode cX4_heldBy 7 = .ok (.iload_n 2, 1) := by decide +kernel
theorem dX4_heldBy_8 : decode cX4_heldBy 8 = .ok (.if_icmp .ge 27, 3) := by decide +kernel
theorem dX4_heldBy_11 : decode cX4_heldBy 11 = .ok (.aload_n 0, 1) := by decide +kernel
theorem dX4_heldBy_12 : decode cX4_heldBy 12 = .ok (.getfield 18, 3) := by decide +kernel
theorem dX4_heldBy_15 : decode cX4_heldBy 15 = .ok (.iload 4, 2) := by decide +kernel
theorem dX4_heldBy_17 : decode cX4_heldBy 17 = .ok (.iaload, 1) := by decide +kernel
theorem dX4_heldBy_18 : decode cX4_heldBy 18 = .ok (.iload_n 1, 1) := by decide +kernel
theorem dX4_heldBy_19 : decode cX4_heldBy 19 = .ok (.if_icmp .ne 10, 3) := by decide +kernel
theorem dX4_heldBy_22 : decode cX4_heldBy 22 = .ok (.iload_n 3, 1) := by decide +kernel
theorem dX4_heldBy_23 : decode cX4_heldBy 23 = .ok (.iconst 1, 1) := by decide +kernel
theorem dX4_heldBy_24 : decode cX4_heldBy 24 = .ok (.iload 4, 2) := by decide +kernel
theorem dX4_heldBy_26 : decode cX4_heldBy 26 = .ok (.ishl, 1) := by decide +kernel
theorem dX4_heldBy_27 : decode cX4_heldBy 27 = .ok (.ior, 1) := by decide +kernel
theorem dX4_heldBy_28 : decode cX4_heldBy 28 = .ok (.istore_n 3, 1) := by decide +kernel
theorem dX4_heldBy_29 : decode cX4_heldBy 29 = .ok (.iinc 4 1, 3) := by decide +kernel
theorem dX4_heldBy_32 : decode cX4_heldBy 32 = .ok (.goto (-27), 3) := by decide +kernel
theorem dX4_heldBy_35 : decode cX4_heldBy 35 = .ok (.iload_n 3, 1) := by decide +kernel
theorem dX4_heldBy_36 : decode cX4_heldBy 36 = .ok (.ireturn, 1) := by decide +kernel
set_option maxRecDepth 20000 in
theorem ggX4_agingFor_X4_whoAges : GoodIn wsX4_agingFor wsX4_whoAges := goodIn_r _ [5, 6, 7, 8, 9, 10, 11, 12, 13, 14, 15] (by decide +kernel) (by decide +kernel)
set_option maxRecDepth 20000 in
theorem gX4_agingFor_X4_whoAges : GoodIn wsX4_agingFor (wsV RX4 43 RX4 yX4_whoAges wsX4_whoAges) := goodIn_app (goodIn_of _ (by decide +kernel)) ggX4_agingFor_X4_whoAges
theorem dX4_agingFor_0 : decode cX4_agingFor 0 = .ok (.iconst 0, 1) := by decide +kernel
theorem dX4_agingFor_1 : decode cX4_agingFor 1 = .ok (.istore_n 3, 1) := by decide +kernel
theorem dX4_agingFor_2 : decode cX4_agingFor 2 = .ok (.iconst 0, 1) := by decide +kernel
theorem dX4_agingFor_3 : decode cX4_agingFor 3 = .ok (.istore 4, 2) := by decide +kernel
theorem dX4_agingFor_5 : decode cX4_agingFor 5 = .ok (.iload 4, 2) := by decide +kernel
theorem dX4_agingFor_7 : decode cX4_agingFor 7 = .ok (.iload_n 2, 1) := by decide +kernel
theorem dX4_agingFor_8 : decode cX4_agingFor 8 = .ok (.if_icmp .ge 26, 3) := by decide +kernel
theorem dX4_agingFor_11 : decode cX4_agingFor 11 = .ok (.aload_n 0, 1) := by decide +kernel
theorem dX4_agingFor_12 : decode cX4_agingFor 12 = .ok (.iload 4, 2) := by decide +kernel
theorem dX4_agingFor_14 : decode cX4_agingFor 14 = .ok (.invokevirtual 43, 3) := by decide +kernel
theorem dX4_agingFor_17 : decode cX4_agingFor 17 = .ok (.iload_n 1, 1) := by decide +kernel
theorem dX4_agingFor_18 : decode cX4_agingFor 18 = .ok (.if_icmp .ne 10, 3) := by decide +kernel
theorem dX4_agingFor_21 : decode cX4_agingFor 21 = .ok (.iload_n 3, 1) := by decide +kernel
theorem dX4_agingFor_22 : decode cX4_agingFor 22 = .ok (.iconst 1, 1) := by decide +kernel
theorem dX4_agingFor_23 : decode cX4_agingFor 23 = .ok (.iload 4, 2) := by decide +kernel
theorem dX4_agingFor_25 : decode cX4_agingFor 25 = .ok (.ishl, 1) := by decide +kernel
theorem dX4_agingFor_26 : decode cX4_agingFor 26 = .ok (.ior, 1) := by decide +kernel
theorem dX4_agingFor_27 : decode cX4_agingFor 27 = .ok (.istore_n 3, 1) := by decide +kernel
theorem dX4_agingFor_28 : decode cX4_agingFor 28 = .ok (.iinc 4 1, 3) := by decide +kernel
theorem dX4_agingFor_31 : decode cX4_agingFor 31 = .ok (.goto (-26), 3) := by decide +kernel
theorem dX4_agingFor_34 : decode cX4_agingFor 34 = .ok (.iload_n 3, 1) := by decide +kernel
theorem dX4_agingFor_35 : decode cX4_agingFor 35 = .ok (.ireturn, 1) := by decide +kernel
theorem dX4_forSaleTo_0 : decode cX4_forSaleTo 0 = .ok (.iconst 0, 1) := by decide +kernel
theorem dX4_forSaleTo_1 : decode cX4_forSaleTo 1 = .ok (.istore_n 3, 1) := by decide +kernel
theorem dX4_forSaleTo_2 : decode cX4_forSaleTo 2 = .ok (.iconst 0, 1) := by decide +kernel
theorem dX4_forSaleTo_3 : decode cX4_forSaleTo 3 = .ok (.istore 4, 2) := by decide +kernel
theorem dX4_forSaleTo_5 : decode cX4_forSaleTo 5 = .ok (.iload 4, 2) := by decide +kernel
theorem dX4_forSaleTo_7 : decode cX4_forSaleTo 7 = .ok (.iload_n 2, 1) := by decide +kernel
theorem dX4_forSaleTo_8 : decode cX4_forSaleTo 8 = .ok (.if_icmp .ge 38, 3) := by decide +kernel
theorem dX4_forSaleTo_11 : decode cX4_forSaleTo 11 = .ok (.aload_n 0, 1) := by decide +kernel
theorem dX4_forSaleTo_12 : decode cX4_forSaleTo 12 = .ok (.getfield 18, 3) := by decide +kernel
theorem dX4_forSaleTo_15 : decode cX4_forSaleTo 15 = .ok (.iload 4, 2) := by decide +kernel
theorem dX4_forSaleTo_17 : decode cX4_forSaleTo 17 = .ok (.iaload, 1) := by decide +kernel
theorem dX4_forSaleTo_18 : decode cX4_forSaleTo 18 = .ok (.iload_n 1, 1) := by decide +kernel
theorem dX4_forSaleTo_19 : decode cX4_forSaleTo 19 = .ok (.if_icmp .eq 21, 3) := by decide +kernel
theorem dX4_forSaleTo_22 : decode cX4_forSaleTo 22 = .ok (.aload_n 0, 1) := by decide +kernel
theorem dX4_forSaleTo_23 : decode cX4_forSaleTo 23 = .ok (.getfield 21, 3) := by decide +kernel
theorem dX4_forSaleTo_26 : decode cX4_forSaleTo 26 = .ok (.iload 4, 2) := by decide +kernel
theorem dX4_forSaleTo_28 : decode cX4_forSaleTo 28 = .ok (.iaload, 1) := by decide +kernel
theorem dX4_forSaleTo_29 : decode cX4_forSaleTo 29 = .ok (.iconst (-1), 1) := by decide +kernel
theorem dX4_forSaleTo_30 : decode cX4_forSaleTo 30 = .ok (.if_icmp .ne 10, 3) := by decide +kernel
theorem dX4_forSaleTo_33 : decode cX4_forSaleTo 33 = .ok (.iload_n 3, 1) := by decide +kernel
theorem dX4_forSaleTo_34 : decode cX4_forSaleTo 34 = .ok (.iconst 1, 1) := by decide +kernel
theorem dX4_forSaleTo_35 : decode cX4_forSaleTo 35 = .ok (.iload 4, 2) := by decide +kernel
theorem dX4_forSaleTo_37 : decode cX4_forSaleTo 37 = .ok (.ishl, 1) := by decide +kernel
theorem dX4_forSaleTo_38 : decode cX4_forSaleTo 38 = .ok (.ior, 1) := by decide +kernel
theorem dX4_forSaleTo_39 : decode cX4_forSaleTo 39 = .ok (.istore_n 3, 1) := by decide +kernel
theorem dX4_forSaleTo_40 : decode cX4_forSaleTo 40 = .ok (.iinc 4 1, 3) := by decide +kernel
theorem dX4_forSaleTo_43 : decode cX4_forSaleTo 43 = .ok (.goto (-38), 3) := by decide +kernel
theorem dX4_forSaleTo_46 : decode cX4_forSaleTo 46 = .ok (.iload_n 3, 1) := by decide +kernel
theorem dX4_forSaleTo_47 : decode cX4_forSaleTo 47 = .ok (.ireturn, 1) := by decide +kernel
set_option maxRecDepth 20000 in
theorem ggX4_priceOf_X10_holds : GoodIn wsX4_priceOf wsX10_holds := goodIn_r _ [4] (by decide +kernel) (by decide +kernel)
set_option maxRecDepth 20000 in
theorem gX4_priceOf_X10_holds_n47 : GoodIn wsX4_priceOf (wsX10_holds) := ggX4_priceOf_X10_holds
theorem dX4_priceOf_0 : decode cX4_priceOf 0 = .ok (.iconst 0, 1) := by decide +kernel
theorem dX4_priceOf_1 : decode cX4_priceOf 1 = .ok (.istore_n 2, 1) := by decide +kernel
theorem dX4_priceOf_2 : decode cX4_priceOf 2 = .ok (.iconst 0, 1) := by decide +kernel
theorem dX4_priceOf_3 : decode cX4_priceOf 3 = .ok (.istore_n 3, 1) := by decide +kernel
theorem dX4_priceOf_4 : decode cX4_priceOf 4 = .ok (.iload_n 3, 1) := by decide +kernel
theorem dX4_priceOf_5 : decode cX4_priceOf 5 = .ok (.bipush 8, 2) := by decide +kernel
theorem dX4_priceOf_7 : decode cX4_priceOf 7 = .ok (.if_icmp .ge 26, 3) := by decide +kernel
theorem dX4_priceOf_10 : decode cX4_priceOf 10 = .ok (.iload_n 1, 1) := by decide +kernel
theorem dX4_priceOf_11 : decode cX4_priceOf 11 = .ok (.iload_n 3, 1) := by decide +kernel
theorem dX4_priceOf_12 : decode cX4_priceOf 12 = .ok (.invokestatic 47, 3) := by decide +kernel
theorem dX4_priceOf_15 : decode cX4_priceOf 15 = .ok (.ifCond .eq 12, 3) := by decide +kernel
theorem dX4_priceOf_18 : decode cX4_priceOf 18 = .ok (.iload_n 2, 1) := by decide +kernel
theorem dX4_priceOf_19 : decode cX4_priceOf 19 = .ok (.aload_n 0, 1) := by decide +kernel
theorem dX4_priceOf_20 : decode cX4_priceOf 20 = .ok (.getfield 24, 3) := by decide +kernel
theorem dX4_priceOf_23 : decode cX4_priceOf 23 = .ok (.iload_n 3, 1) := by decide +kernel
theorem dX4_priceOf_24 : decode cX4_priceOf 24 = .ok (.iaload, 1) := by decide +kernel
theorem dX4_priceOf_25 : decode cX4_priceOf 25 = .ok (.iadd, 1) := by decide +kernel
theorem dX4_priceOf_26 : decode cX4_priceOf 26 = .ok (.istore_n 2, 1) := by decide +kernel
theorem dX4_priceOf_27 : decode cX4_priceOf 27 = .ok (.iinc 3 1, 3) := by decide +kernel
theorem dX4_priceOf_30 : decode cX4_priceOf 30 = .ok (.goto (-26), 3) := by decide +kernel
theorem dX4_priceOf_33 : decode cX4_priceOf 33 = .ok (.iload_n 2, 1) := by decide +kernel
theorem dX4_priceOf_34 : decode cX4_priceOf 34 = .ok (.ireturn, 1) := by decide +kernel
set_option maxRecDepth 20000 in
theorem ggX4_celebrate_X10_older : GoodIn wsX4_celebrate wsX10_older := goodIn_r _ [9, 10, 4, 5, 6] (by decide +kernel) (by decide +kernel)
set_option maxRecDepth 20000 in
theorem gX4_celebrate_X10_older_n51 : GoodIn wsX4_celebrate (wsX10_older) := ggX4_celebrate_X10_older
theorem dX4_celebrate_0 : decode cX4_celebrate 0 = .ok (.iload_n 1, 1) := by decide +kernel
theorem dX4_celebrate_1 : decode cX4_celebrate 1 = .ok (.ifCond .lt 9, 3) := by decide +kernel
theorem dX4_celebrate_4 : decode cX4_celebrate 4 = .ok (.iload_n 1, 1) := by decide +kernel
theorem dX4_celebrate_5 : decode cX4_celebrate 5 = .ok (.bipush 6, 2) := by decide +kernel
theorem dX4_celebrate_7 : decode cX4_celebrate 7 = .ok (.if_icmp .lt 4, 3) := by decide +kernel
theorem dX4_celebrate_10 : decode cX4_celebrate 10 = .ok (.return_, 1) := by decide +kernel
theorem dX4_celebrate_11 : decode cX4_celebrate 11 = .ok (.aload_n 0, 1) := by decide +kernel
theorem dX4_celebrate_12 : decode cX4_celebrate 12 = .ok (.getfield 9, 3) := by decide +kernel
theorem dX4_celebrate_15 : decode cX4_celebrate 15 = .ok (.iload_n 1, 1) := by decide +kernel
theorem dX4_celebrate_16 : decode cX4_celebrate 16 = .ok (.aload_n 0, 1) := by decide +kernel
theorem dX4_celebrate_17 : decode cX4_celebrate 17 = .ok (.getfield 9, 3) := by decide +kernel
theorem dX4_celebrate_20 : decode cX4_celebrate 20 = .ok (.iload_n 1, 1) := by decide +kernel
theorem dX4_celebrate_21 : decode cX4_celebrate 21 = .ok (.iaload, 1) := by decide +kernel
theorem dX4_celebrate_22 : decode cX4_celebrate 22 = .ok (.invokestatic 51, 3) := by decide +kernel
theorem dX4_celebrate_25 : decode cX4_celebrate 25 = .ok (.iastore, 1) := by decide +kernel
theorem dX4_celebrate_26 : decode cX4_celebrate 26 = .ok (.aload_n 0, 1) := by decide +kernel
theorem dX4_celebrate_27 : decode cX4_celebrate 27 = .ok (.getfield 15, 3) := by decide +kernel
theorem dX4_celebrate_30 : decode cX4_celebrate 30 = .ok (.iload_n 1, 1) := by decide +kernel
theorem dX4_celebrate_31 : decode cX4_celebrate 31 = .ok (.sipush 9999, 3) := by decide +kernel
theorem dX4_celebrate_34 : decode cX4_celebrate 34 = .ok (.aload_n 0, 1) := by decide +kernel
theorem dX4_celebrate_35 : decode cX4_celebrate 35 = .ok (.getfield 15, 3) := by decide +kernel
theorem dX4_celebrate_38 : decode cX4_celebrate 38 = .ok (.iload_n 1, 1) := by decide +kernel
theorem dX4_celebrate_39 : decode cX4_celebrate 39 = .ok (.iaload, 1) := by decide +kernel
theorem dX4_celebrate_40 : decode cX4_celebrate 40 = .ok (.aload_n 0, 1) := by decide +kernel
theorem dX4_celebrate_41 : decode cX4_celebrate 41 = .ok (.getfield 9, 3) := by decide +kernel
theorem dX4_celebrate_44 : decode cX4_celebrate 44 = .ok (.iload_n 1, 1) := by decide +kernel
theorem dX4_celebrate_45 : decode cX4_celebrate 45 = .ok (.iaload, 1) := by decide +kernel
theorem dX4_celebrate_46 : decode cX4_celebrate 46 = .ok (.bipush 10, 2) := by decide +kernel
theorem dX4_celebrate_48 : decode cX4_celebrate 48 = .ok (.idiv, 1) := by decide +kernel
theorem dX4_celebrate_49 : decode cX4_celebrate 49 = .ok (.iadd, 1) := by decide +kernel
theorem dX4_celebrate_50 : decode cX4_celebrate 50 = .ok (.iconst 1, 1) := by decide +kernel
theorem dX4_celebrate_51 : decode cX4_celebrate 51 = .ok (.iadd, 1) := by decide +kernel
theorem dX4_celebrate_52 : decode cX4_celebrate 52 = .ok (.invokestatic 54, 3) := by decide +kernel
theorem dX4_celebrate_55 : decode cX4_celebrate 55 = .ok (.iastore, 1) := by decide +kernel
theorem dX4_celebrate_56 : decode cX4_celebrate 56 = .ok (.return_, 1) := by decide +kernel
set_option maxRecDepth 20000 in
theorem ggX4_passDraw_X7_endsYear : GoodIn wsX4_passDraw wsX7_endsYear := goodIn_r _ [8, 9, 10, 11, 12, 7, 13, 14, 37, 38, 39, 40, 41, 42] (by decide +kernel) (by decide +kernel)
set_option maxRecDepth 20000 in
theorem gX4_passDraw_X7_endsYear : GoodIn wsX4_passDraw (wsV RX4 60 RX7 yX7_endsYear wsX7_endsYear) := goodIn_app (goodIn_of _ (by decide +kernel)) ggX4_passDraw_X7_endsYear
set_option maxRecDepth 20000 in
theorem ggX4_passDraw_X7_drumAfter : GoodIn wsX4_passDraw wsX7_drumAfter := goodIn_r _ [18, 19, 5, 6, 7, 8, 9, 10, 11, 12, 13, 14, 20, 21, 22, 23, 24, 37, 38, 39, 40, 41, 42] (by decide +kernel) (by decide +kernel)
set_option maxRecDepth 20000 in
theorem gX4_passDraw_X7_drumAfter : GoodIn wsX4_passDraw (wsV RX4 66 RX7 yX7_drumAfter wsX7_drumAfter) := goodIn_app (goodIn_of _ (by decide +kernel)) ggX4_passDraw_X7_drumAfter
set_option maxRecDepth 20000 in
theorem ggX4_passDraw_X7_drawsAfter : GoodIn wsX4_passDraw wsX7_drawsAfter := goodIn_r _ [28, 19, 5, 6, 7, 8, 9, 10, 11, 12, 13, 14, 37, 38, 39, 40, 41, 42] (by decide +kernel) (by decide +kernel)
set_option maxRecDepth 20000 in
theorem gX4_passDraw_X7_drawsAfter : GoodIn wsX4_passDraw (wsV RX4 70 RX7 yX7_drawsAfter wsX7_drawsAfter) := goodIn_app (goodIn_of _ (by decide +kernel)) ggX4_passDraw_X7_drawsAfter
theorem dX4_passDraw_0 : decode cX4_passDraw 0 = .ok (.aload_n 0, 1) := by decide +kernel
theorem dX4_passDraw_1 : decode cX4_passDraw 1 = .ok (.getfield 27, 3) := by decide +kernel
theorem dX4_passDraw_4 : decode cX4_passDraw 4 = .ok (.istore_n 3, 1) := by decide +kernel
theorem dX4_passDraw_5 : decode cX4_passDraw 5 = .ok (.aload_n 1, 1) := by decide +kernel
theorem dX4_passDraw_6 : decode cX4_passDraw 6 = .ok (.iload_n 3, 1) := by decide +kernel
theorem dX4_passDraw_7 : decode cX4_passDraw 7 = .ok (.aload_n 0, 1) := by decide +kernel
theorem dX4_passDraw_8 : decode cX4_passDraw 8 = .ok (.getfield 34, 3) := by decide +kernel
theorem dX4_passDraw_11 : decode cX4_passDraw 11 = .ok (.iload_n 2, 1) := by decide +kernel
theorem dX4_passDraw_12 : decode cX4_passDraw 12 = .ok (.invokevirtual 60, 3) := by decide +kernel
theorem dX4_passDraw_15 : decode cX4_passDraw 15 = .ok (.ifCond .eq 13, 3) := by decide +kernel
theorem dX4_passDraw_18 : decode cX4_passDraw 18 = .ok (.aload_n 0, 1) := by decide +kernel
theorem dX4_passDraw_19 : decode cX4_passDraw 19 = .ok (.dup, 1) := by decide +kernel
theorem dX4_passDraw_20 : decode cX4_passDraw 20 = .ok (.getfield 31, 3) := by decide +kernel
theorem dX4_passDraw_23 : decode cX4_passDraw 23 = .ok (.iconst 1, 1) := by decide +kernel
theorem dX4_passDraw_24 : decode cX4_passDraw 24 = .ok (.iadd, 1) := by decide +kernel
theorem dX4_passDraw_25 : decode cX4_passDraw 25 = .ok (.putfield 31, 3) := by decide +kernel
theorem dX4_passDraw_28 : decode cX4_passDraw 28 = .ok (.aload_n 0, 1) := by decide +kernel
theorem dX4_passDraw_29 : decode cX4_passDraw 29 = .ok (.aload_n 1, 1) := by decide +kernel
theorem dX4_passDraw_30 : decode cX4_passDraw 30 = .ok (.iload_n 3, 1) := by decide +kernel
theorem dX4_passDraw_31 : decode cX4_passDraw 31 = .ok (.aload_n 0, 1) := by decide +kernel
theorem dX4_passDraw_32 : decode cX4_passDraw 32 = .ok (.getfield 34, 3) := by decide +kernel
theorem dX4_passDraw_35 : decode cX4_passDraw 35 = .ok (.iload_n 2, 1) := by decide +kernel
theorem dX4_passDraw_36 : decode cX4_passDraw 36 = .ok (.invokevirtual 66, 3) := by decide +kernel
theorem dX4_passDraw_39 : decode cX4_passDraw 39 = .ok (.putfield 27, 3) := by decide +kernel
theorem dX4_passDraw_42 : decode cX4_passDraw 42 = .ok (.aload_n 0, 1) := by decide +kernel
theorem dX4_passDraw_43 : decode cX4_passDraw 43 = .ok (.aload_n 1, 1) := by decide +kernel
theorem dX4_passDraw_44 : decode cX4_passDraw 44 = .ok (.iload_n 3, 1) := by decide +kernel
theorem dX4_passDraw_45 : decode cX4_passDraw 45 = .ok (.aload_n 0, 1) := by decide +kernel
theorem dX4_passDraw_46 : decode cX4_passDraw 46 = .ok (.getfield 34, 3) := by decide +kernel
theorem dX4_passDraw_49 : decode cX4_passDraw 49 = .ok (.iload_n 2, 1) := by decide +kernel
theorem dX4_passDraw_50 : decode cX4_passDraw 50 = .ok (.invokevirtual 70, 3) := by decide +kernel
theorem dX4_passDraw_53 : decode cX4_passDraw 53 = .ok (.putfield 34, 3) := by decide +kernel
theorem dX4_passDraw_56 : decode cX4_passDraw 56 = .ok (.return_, 1) := by decide +kernel
theorem dX5_init_0 : decode cX5_init 0 = .ok (.aload_n 0, 1) := by decide +kernel
theorem dX5_init_1 : decode cX5_init 1 = .ok (.invokespecial 3, 3) := by decide +kernel
theorem dX5_init_4 : decode cX5_init 4 = .ok (.aload_n 0, 1) := by decide +kernel
theorem dX5_init_5 : decode cX5_init 5 = .ok (.bipush 30, 2) := by decide +kernel
theorem dX5_init_7 : decode cX5_init 7 = .ok (.bipush 39, 2) := by decide +kernel
theorem dX5_init_9 : decode cX5_init 9 = .ok (.multianewarray 11 2, 4) := by decide +kernel
theorem dX5_init_13 : decode cX5_init 13 = .ok (.putfield 13, 3) := by decide +kernel
theorem dX5_init_16 : decode cX5_init 16 = .ok (.aload_n 0, 1) := by decide +kernel
theorem dX5_init_17 : decode cX5_init 17 = .ok (.iconst 0, 1) := by decide +kernel
theorem dX5_init_18 : decode cX5_init 18 = .ok (.putfield 18, 3) := by decide +kernel
theorem dX5_init_21 : decode cX5_init 21 = .ok (.aload_n 0, 1) := by decide +kernel
theorem dX5_init_22 : decode cX5_init 22 = .ok (.iconst 0, 1) := by decide +kernel
theorem dX5_init_23 : decode cX5_init 23 = .ok (.putfield 22, 3) := by decide +kernel
theorem dX5_init_26 : decode cX5_init 26 = .ok (.return_, 1) := by decide +kernel
theorem dX5_clear_0 : decode cX5_clear 0 = .ok (.aload_n 0, 1) := by decide +kernel
theorem dX5_clear_1 : decode cX5_clear 1 = .ok (.iconst 0, 1) := by decide +kernel
theorem dX5_clear_2 : decode cX5_clear 2 = .ok (.putfield 18, 3) := by decide +kernel
theorem dX5_clear_5 : decode cX5_clear 5 = .ok (.aload_n 0, 1) := by decide +kernel
theorem dX5_clear_6 : decode cX5_clear 6 = .ok (.iconst 0, 1) := by decide +kernel
theorem dX5_clear_7 : decode cX5_clear 7 = .ok (.putfield 22, 3) := by decide +kernel
theorem dX5_clear_10 : decode cX5_clear 10 = .ok (.return_, 1) := by decide +kernel
set_option maxRecDepth 20000 in
theorem ggX5_add_X4_packInto : GoodIn wsX5_add wsX4_packInto := goodIn_r _ [8, 9, 10, 11, 12, 13, 14, 15, 16, 17, 18, 19, 20, 24, 25, 26, 27, 28, 29, 30, 31] (by decide +kernel) (by decide +kernel)
set_option maxRecDepth 20000 in
theorem gX5_add_X4_packInto : GoodIn wsX5_add (wsV RX5 25 RX4 yX4_packInto wsX4_packInto) := goodIn_app (goodIn_of _ (by decide +kernel)) ggX5_add_X4_packInto
theorem dX5_add_0 : decode cX5_add 0 = .ok (.aload_n 1, 1) := by decide +kernel
theorem dX5_add_1 : decode cX5_add 1 = .ok (.aload_n 0, 1) := by decide +kernel
theorem dX5_add_2 : decode cX5_add 2 = .ok (.getfield 13, 3) := by decide +kernel
theorem dX5_add_5 : decode cX5_add 5 = .ok (.aload_n 0, 1) := by decide +kernel
theorem dX5_add_6 : decode cX5_add 6 = .ok (.getfield 18, 3) := by decide +kernel
theorem dX5_add_9 : decode cX5_add 9 = .ok (.aaload, 1) := by decide +kernel
theorem dX5_add_10 : decode cX5_add 10 = .ok (.invokevirtual 25, 3) := by decide +kernel
theorem dX5_add_13 : decode cX5_add 13 = .ok (.aload_n 0, 1) := by decide +kernel
theorem dX5_add_14 : decode cX5_add 14 = .ok (.aload_n 0, 1) := by decide +kernel
theorem dX5_add_15 : decode cX5_add 15 = .ok (.getfield 18, 3) := by decide +kernel
theorem dX5_add_18 : decode cX5_add 18 = .ok (.iconst 1, 1) := by decide +kernel
theorem dX5_add_19 : decode cX5_add 19 = .ok (.iadd, 1) := by decide +kernel
theorem dX5_add_20 : decode cX5_add 20 = .ok (.bipush 30, 2) := by decide +kernel
theorem dX5_add_22 : decode cX5_add 22 = .ok (.irem, 1) := by decide +kernel
theorem dX5_add_23 : decode cX5_add 23 = .ok (.putfield 18, 3) := by decide +kernel
theorem dX5_add_26 : decode cX5_add 26 = .ok (.aload_n 0, 1) := by decide +kernel
theorem dX5_add_27 : decode cX5_add 27 = .ok (.getfield 22, 3) := by decide +kernel
theorem dX5_add_30 : decode cX5_add 30 = .ok (.bipush 30, 2) := by decide +kernel
theorem dX5_add_32 : decode cX5_add 32 = .ok (.if_icmp .ge 13, 3) := by decide +kernel
theorem dX5_add_35 : decode cX5_add 35 = .ok (.aload_n 0, 1) := by decide +kernel
theorem dX5_add_36 : decode cX5_add 36 = .ok (.dup, 1) := by decide +kernel
theorem dX5_add_37 : decode cX5_add 37 = .ok (.getfield 22, 3) := by decide +kernel
theorem dX5_add_40 : decode cX5_add 40 = .ok (.iconst 1, 1) := by decide +kernel
theorem dX5_add_41 : decode cX5_add 41 = .ok (.iadd, 1) := by decide +kernel
theorem dX5_add_42 : decode cX5_add 42 = .ok (.putfield 22, 3) := by decide +kernel
theorem dX5_add_45 : decode cX5_add 45 = .ok (.return_, 1) := by decide +kernel
set_option maxRecDepth 20000 in
theorem ggX5_takeBack_X4_unpackFrom : GoodIn wsX5_takeBack wsX4_unpackFrom := goodIn_r _ [8, 9, 10, 11, 12, 13, 14, 15, 16, 17, 18, 19, 20, 24, 25, 26, 27, 28, 29, 30, 31] (by decide +kernel) (by decide +kernel)
set_option maxRecDepth 20000 in
theorem gX5_takeBack_X4_unpackFrom : GoodIn wsX5_takeBack (wsV RX5 29 RX4 yX4_unpackFrom wsX4_unpackFrom) := goodIn_app (goodIn_of _ (by decide +kernel)) ggX5_takeBack_X4_unpackFrom
theorem dX5_takeBack_0 : decode cX5_takeBack 0 = .ok (.iload_n 1, 1) := by decide +kernel
theorem dX5_takeBack_1 : decode cX5_takeBack 1 = .ok (.iconst 1, 1) := by decide +kernel
theorem dX5_takeBack_2 : decode cX5_takeBack 2 = .ok (.if_icmp .lt 11, 3) := by decide +kernel
theorem dX5_takeBack_5 : decode cX5_takeBack 5 = .ok (.iload_n 1, 1) := by decide +kernel
theorem dX5_takeBack_6 : decode cX5_takeBack 6 = .ok (.aload_n 0, 1) := by decide +kernel
theorem dX5_takeBack_7 : decode cX5_takeBack 7 = .ok (.getfield 22, 3) := by decide +kernel
theorem dX5_takeBack_10 : decode cX5_takeBack 10 = .ok (.if_icmp .le 4, 3) := by decide +kernel
theorem dX5_takeBack_13 : decode cX5_takeBack 13 = .ok (.return_, 1) := by decide +kernel
theorem dX5_takeBack_14 : decode cX5_takeBack 14 = .ok (.aload_n 0, 1) := by decide +kernel
theorem dX5_takeBack_15 : decode cX5_takeBack 15 = .ok (.aload_n 0, 1) := by decide +kernel
theorem dX5_takeBack_16 : decode cX5_takeBack 16 = .ok (.getfield 18, 3) := by decide +kernel
theorem dX5_takeBack_19 : decode cX5_takeBack 19 = .ok (.bipush 30, 2) := by decide +kernel
theorem dX5_takeBack_21 : decode cX5_takeBack 21 = .ok (.iadd, 1) := by decide +kernel
theorem dX5_takeBack_22 : decode cX5_takeBack 22 = .ok (.iload_n 1, 1) := by decide +kernel
theorem dX5_takeBack_23 : decode cX5_takeBack 23 = .ok (.isub, 1) := by decide +kernel
theorem dX5_takeBack_24 : decode cX5_takeBack 24 = .ok (.bipush 30, 2) := by decide +kernel
theorem dX5_takeBack_26 : decode cX5_takeBack 26 = .ok (.irem, 1) := by decide +kernel
theorem dX5_takeBack_27 : decode cX5_takeBack 27 = .ok (.putfield 18, 3) := by decide +kernel
theorem dX5_takeBack_30 : decode cX5_takeBack 30 = .ok (.aload_n 0, 1) := by decide +kernel
theorem dX5_takeBack_31 : decode cX5_takeBack 31 = .ok (.dup, 1) := by decide +kernel
theorem dX5_takeBack_32 : decode cX5_takeBack 32 = .ok (.getfield 22, 3) := by decide +kernel
theorem dX5_takeBack_35 : decode cX5_takeBack 35 = .ok (.iload_n 1, 1) := by decide +kernel
theorem dX5_takeBack_36 : decode cX5_takeBack 36 = .ok (.isub, 1) := by decide +kernel
theorem dX5_takeBack_37 : decode cX5_takeBack 37 = .ok (.putfield 22, 3) := by decide +kernel
theorem dX5_takeBack_40 : decode cX5_takeBack 40 = .ok (.aload_n 2, 1) := by decide +kernel
theorem dX5_takeBack_41 : decode cX5_takeBack 41 = .ok (.aload_n 0, 1) := by decide +kernel
theorem dX5_takeBack_42 : decode cX5_takeBack 42 = .ok (.getfield 13, 3) := by decide +kernel
theorem dX5_takeBack_45 : decode cX5_takeBack 45 = .ok (.aload_n 0, 1) := by decide +kernel
theorem dX5_takeBack_46 : decode cX5_takeBack 46 = .ok (.getfield 18, 3) := by decide +kernel
theorem dX5_takeBack_49 : decode cX5_takeBack 49 = .ok (.aaload, 1) := by decide +kernel
theorem dX5_takeBack_50 : decode cX5_takeBack 50 = .ok (.invokevirtual 29, 3) := by decide +kernel
theorem dX5_takeBack_53 : decode cX5_takeBack 53 = .ok (.return_, 1) := by decide +kernel
