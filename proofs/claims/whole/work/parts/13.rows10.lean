set_option maxRecDepth 20000 in
theorem ggX10_init_X6_init : GoodIn wsX10_init wsX6_init := goodIn_r _ [52, 53, 2, 3, 54, 11, 12, 55, 56, 15, 16, 57, 4, 58, 59, 60, 61, 62, 63, 64, 65, 66, 67, 68, 69, 70, 71, 72, 73, 74, 75, 76, 77, 78, 79, 80, 81, 82, 83, 84, 85, 86, 87, 8, 88, 89, 90, 91, 92, 93, 94, 95, 96, 97, 98, 99, 100, 101, 102, 103, 192, 193, 194, 195, 196, 197, 180, 181, 182, 183, 184, 185, 186, 187, 188, 189, 190, 191, 198, 199, 200, 201, 202, 203, 204, 205] (by decide +kernel) (by decide +kernel)
set_option maxRecDepth 20000 in
theorem gX10_init_X6_init : GoodIn wsX10_init (wsX6_init) := ggX10_init_X6_init
set_option maxRecDepth 20000 in
theorem ggX10_init_X7_init : GoodIn wsX10_init wsX7_init := goodIn_r _ [61, 62, 2, 3, 4, 63, 64, 65, 66, 67, 12, 68, 69, 70, 71, 72, 192, 193, 194, 195, 196, 197] (by decide +kernel) (by decide +kernel)
set_option maxRecDepth 20000 in
theorem gX10_init_X7_init : GoodIn wsX10_init (wsX7_init) := ggX10_init_X7_init
set_option maxRecDepth 20000 in
theorem ggX10_init_X4_init : GoodIn wsX10_init wsX4_init := goodIn_r _ [75, 76, 2, 3, 4, 77, 78, 79, 80, 81, 82, 83, 84, 198, 199, 200, 201, 202, 203, 204, 205] (by decide +kernel) (by decide +kernel)
set_option maxRecDepth 20000 in
theorem gX10_init_X4_init : GoodIn wsX10_init (wsX4_init) := ggX10_init_X4_init
set_option maxRecDepth 20000 in
theorem ggX10_init_X5_init : GoodIn wsX10_init wsX5_init := goodIn_r _ [108, 109, 2, 3, 110, 4, 111, 112, 113, 206, 207, 208] (by decide +kernel) (by decide +kernel)
set_option maxRecDepth 20000 in
theorem gX10_init_X5_init : GoodIn wsX10_init (wsX5_init) := ggX10_init_X5_init
set_option maxRecDepth 20000 in
theorem ggX10_init_X3_init : GoodIn wsX10_init wsX3_init := goodIn_r _ [116, 117, 2, 3, 118, 4, 119, 120, 121, 209, 210, 211] (by decide +kernel) (by decide +kernel)
set_option maxRecDepth 20000 in
theorem gX10_init_X3_init : GoodIn wsX10_init (wsX3_init) := ggX10_init_X3_init
set_option maxRecDepth 20000 in
theorem ggX10_init_X2_init : GoodIn wsX10_init wsX2_init := goodIn_r _ [124, 125, 2, 3, 126, 127, 4, 128, 129, 130, 131, 132, 212, 213, 214, 215, 216, 217] (by decide +kernel) (by decide +kernel)
set_option maxRecDepth 20000 in
theorem gX10_init_X2_init : GoodIn wsX10_init (wsX2_init) := ggX10_init_X2_init
set_option maxRecDepth 20000 in
theorem ggX10_init_X9_init : GoodIn wsX10_init wsX9_init := goodIn_r _ [135, 136, 2, 3, 4, 137, 138, 139, 140, 218, 219, 220, 221] (by decide +kernel) (by decide +kernel)
set_option maxRecDepth 20000 in
theorem gX10_init_X9_init : GoodIn wsX10_init (wsX9_init) := ggX10_init_X9_init
set_option maxRecDepth 20000 in
theorem ggX10_init_X8_init : GoodIn wsX10_init wsX8_init := goodIn_r _ [143, 144, 2, 3, 4, 145, 146, 222, 223] (by decide +kernel) (by decide +kernel)
set_option maxRecDepth 20000 in
theorem gX10_init_X8_init : GoodIn wsX10_init (wsX8_init) := ggX10_init_X8_init
set_option maxRecDepth 20000 in
theorem ggX10_init_X1_init : GoodIn wsX10_init wsX1_init := goodIn_r _ [149, 150, 2, 3, 4, 151, 152, 153, 154, 155, 156, 157, 158, 224, 225, 226, 227, 228, 229, 230, 231] (by decide +kernel) (by decide +kernel)
set_option maxRecDepth 20000 in
theorem gX10_init_X1_init : GoodIn wsX10_init (wsX1_init) := ggX10_init_X1_init
set_option maxRecDepth 20000 in
theorem ggX10_init_X0_init : GoodIn wsX10_init wsX0_init := goodIn_r _ [161, 162, 2, 3, 4, 163, 164, 232, 233] (by decide +kernel) (by decide +kernel)
set_option maxRecDepth 20000 in
theorem gX10_init_X0_init : GoodIn wsX10_init (wsX0_init) := ggX10_init_X0_init
theorem dX10_init_0 : decode cX10_init 0 = .ok (.aload_n 0, 1) := by decide +kernel
theorem dX10_init_1 : decode cX10_init 1 = .ok (.invokespecial 1, 3) := by decide +kernel
theorem dX10_init_4 : decode cX10_init 4 = .ok (.aload_n 0, 1) := by decide +kernel
theorem dX10_init_5 : decode cX10_init 5 = .ok (.sipush 250, 3) := by decide +kernel
theorem dX10_init_8 : decode cX10_init 8 = .ok (.newarray .int, 2) := by decide +kernel
theorem dX10_init_10 : decode cX10_init 10 = .ok (.putfield 9, 3) := by decide +kernel
theorem dX10_init_13 : decode cX10_init 13 = .ok (.aload_n 0, 1) := by decide +kernel
theorem dX10_init_14 : decode cX10_init 14 = .ok (.new 13, 3) := by decide +kernel
theorem dX10_init_17 : decode cX10_init 17 = .ok (.dup, 1) := by decide +kernel
theorem dX10_init_18 : decode cX10_init 18 = .ok (.invokespecial 15, 3) := by decide +kernel
theorem dX10_init_21 : decode cX10_init 21 = .ok (.putfield 16, 3) := by decide +kernel
theorem dX10_init_24 : decode cX10_init 24 = .ok (.aload_n 0, 1) := by decide +kernel
theorem dX10_init_25 : decode cX10_init 25 = .ok (.new 20, 3) := by decide +kernel
theorem dX10_init_28 : decode cX10_init 28 = .ok (.dup, 1) := by decide +kernel
theorem dX10_init_29 : decode cX10_init 29 = .ok (.invokespecial 22, 3) := by decide +kernel
theorem dX10_init_32 : decode cX10_init 32 = .ok (.putfield 23, 3) := by decide +kernel
theorem dX10_init_35 : decode cX10_init 35 = .ok (.aload_n 0, 1) := by decide +kernel
theorem dX10_init_36 : decode cX10_init 36 = .ok (.new 27, 3) := by decide +kernel
theorem dX10_init_39 : decode cX10_init 39 = .ok (.dup, 1) := by decide +kernel
theorem dX10_init_40 : decode cX10_init 40 = .ok (.invokespecial 29, 3) := by decide +kernel
theorem dX10_init_43 : decode cX10_init 43 = .ok (.putfield 30, 3) := by decide +kernel
theorem dX10_init_46 : decode cX10_init 46 = .ok (.aload_n 0, 1) := by decide +kernel
theorem dX10_init_47 : decode cX10_init 47 = .ok (.new 34, 3) := by decide +kernel
theorem dX10_init_50 : decode cX10_init 50 = .ok (.dup, 1) := by decide +kernel
theorem dX10_init_51 : decode cX10_init 51 = .ok (.invokespecial 36, 3) := by decide +kernel
theorem dX10_init_54 : decode cX10_init 54 = .ok (.putfield 37, 3) := by decide +kernel
theorem dX10_init_57 : decode cX10_init 57 = .ok (.aload_n 0, 1) := by decide +kernel
theorem dX10_init_58 : decode cX10_init 58 = .ok (.new 41, 3) := by decide +kernel
theorem dX10_init_61 : decode cX10_init 61 = .ok (.dup, 1) := by decide +kernel
theorem dX10_init_62 : decode cX10_init 62 = .ok (.invokespecial 43, 3) := by decide +kernel
theorem dX10_init_65 : decode cX10_init 65 = .ok (.putfield 44, 3) := by decide +kernel
theorem dX10_init_68 : decode cX10_init 68 = .ok (.aload_n 0, 1) := by decide +kernel
theorem dX10_init_69 : decode cX10_init 69 = .ok (.new 48, 3) := by decide +kernel
theorem dX10_init_72 : decode cX10_init 72 = .ok (.dup, 1) := by decide +kernel
theorem dX10_init_73 : decode cX10_init 73 = .ok (.invokespecial 50, 3) := by decide +kernel
theorem dX10_init_76 : decode cX10_init 76 = .ok (.putfield 51, 3) := by decide +kernel
theorem dX10_init_79 : decode cX10_init 79 = .ok (.aload_n 0, 1) := by decide +kernel
theorem dX10_init_80 : decode cX10_init 80 = .ok (.new 55, 3) := by decide +kernel
theorem dX10_init_83 : decode cX10_init 83 = .ok (.dup, 1) := by decide +kernel
theorem dX10_init_84 : decode cX10_init 84 = .ok (.invokespecial 57, 3) := by decide +kernel
theorem dX10_init_87 : decode cX10_init 87 = .ok (.putfield 58, 3) := by decide +kernel
theorem dX10_init_90 : decode cX10_init 90 = .ok (.aload_n 0, 1) := by decide +kernel
theorem dX10_init_91 : decode cX10_init 91 = .ok (.new 62, 3) := by decide +kernel
theorem dX10_init_94 : decode cX10_init 94 = .ok (.dup, 1) := by decide +kernel
theorem dX10_init_95 : decode cX10_init 95 = .ok (.invokespecial 64, 3) := by decide +kernel
theorem dX10_init_98 : decode cX10_init 98 = .ok (.putfield 65, 3) := by decide +kernel
theorem dX10_init_101 : decode cX10_init 101 = .ok (.aload_n 0, 1) := by decide +kernel
theorem dX10_init_102 : decode cX10_init 102 = .ok (.new 69, 3) := by decide +kernel
theorem dX10_init_105 : decode cX10_init 105 = .ok (.dup, 1) := by decide +kernel
theorem dX10_init_106 : decode cX10_init 106 = .ok (.invokespecial 71, 3) := by decide +kernel
theorem dX10_init_109 : decode cX10_init 109 = .ok (.putfield 72, 3) := by decide +kernel
theorem dX10_init_112 : decode cX10_init 112 = .ok (.aload_n 0, 1) := by decide +kernel
theorem dX10_init_113 : decode cX10_init 113 = .ok (.new 76, 3) := by decide +kernel
theorem dX10_init_116 : decode cX10_init 116 = .ok (.dup, 1) := by decide +kernel
theorem dX10_init_117 : decode cX10_init 117 = .ok (.invokespecial 78, 3) := by decide +kernel
theorem dX10_init_120 : decode cX10_init 120 = .ok (.putfield 79, 3) := by decide +kernel
theorem dX10_init_123 : decode cX10_init 123 = .ok (.aload_n 0, 1) := by decide +kernel
theorem dX10_init_124 : decode cX10_init 124 = .ok (.bipush 6, 2) := by decide +kernel
theorem dX10_init_126 : decode cX10_init 126 = .ok (.newarray .int, 2) := by decide +kernel
theorem dX10_init_128 : decode cX10_init 128 = .ok (.putfield 83, 3) := by decide +kernel
theorem dX10_init_131 : decode cX10_init 131 = .ok (.aload_n 0, 1) := by decide +kernel
theorem dX10_init_132 : decode cX10_init 132 = .ok (.iconst 0, 1) := by decide +kernel
theorem dX10_init_133 : decode cX10_init 133 = .ok (.putfield 86, 3) := by decide +kernel
theorem dX10_init_136 : decode cX10_init 136 = .ok (.aload_n 0, 1) := by decide +kernel
theorem dX10_init_137 : decode cX10_init 137 = .ok (.iconst (-1), 1) := by decide +kernel
theorem dX10_init_138 : decode cX10_init 138 = .ok (.putfield 90, 3) := by decide +kernel
theorem dX10_init_141 : decode cX10_init 141 = .ok (.aload_n 0, 1) := by decide +kernel
theorem dX10_init_142 : decode cX10_init 142 = .ok (.iconst 0, 1) := by decide +kernel
theorem dX10_init_143 : decode cX10_init 143 = .ok (.putfield 93, 3) := by decide +kernel
theorem dX10_init_146 : decode cX10_init 146 = .ok (.return_, 1) := by decide +kernel
theorem dX10_feed_0 : decode cX10_feed 0 = .ok (.iload_n 1, 1) := by decide +kernel
theorem dX10_feed_1 : decode cX10_feed 1 = .ok (.ifCond .lt 10, 3) := by decide +kernel
theorem dX10_feed_4 : decode cX10_feed 4 = .ok (.iload_n 1, 1) := by decide +kernel
theorem dX10_feed_5 : decode cX10_feed 5 = .ok (.sipush 255, 3) := by decide +kernel
theorem dX10_feed_8 : decode cX10_feed 8 = .ok (.if_icmp .le 6, 3) := by decide +kernel
theorem dX10_feed_11 : decode cX10_feed 11 = .ok (.ldc 96, 2) := by decide +kernel
theorem dX10_feed_13 : decode cX10_feed 13 = .ok (.ireturn, 1) := by decide +kernel
theorem dX10_feed_14 : decode cX10_feed 14 = .ok (.aload_n 0, 1) := by decide +kernel
theorem dX10_feed_15 : decode cX10_feed 15 = .ok (.getfield 86, 3) := by decide +kernel
theorem dX10_feed_18 : decode cX10_feed 18 = .ok (.sipush 250, 3) := by decide +kernel
theorem dX10_feed_21 : decode cX10_feed 21 = .ok (.if_icmp .lt 6, 3) := by decide +kernel
theorem dX10_feed_24 : decode cX10_feed 24 = .ok (.ldc 97, 2) := by decide +kernel
theorem dX10_feed_26 : decode cX10_feed 26 = .ok (.ireturn, 1) := by decide +kernel
theorem dX10_feed_27 : decode cX10_feed 27 = .ok (.aload_n 0, 1) := by decide +kernel
theorem dX10_feed_28 : decode cX10_feed 28 = .ok (.getfield 9, 3) := by decide +kernel
theorem dX10_feed_31 : decode cX10_feed 31 = .ok (.aload_n 0, 1) := by decide +kernel
theorem dX10_feed_32 : decode cX10_feed 32 = .ok (.getfield 86, 3) := by decide +kernel
theorem dX10_feed_35 : decode cX10_feed 35 = .ok (.iload_n 1, 1) := by decide +kernel
theorem dX10_feed_36 : decode cX10_feed 36 = .ok (.iastore, 1) := by decide +kernel
theorem dX10_feed_37 : decode cX10_feed 37 = .ok (.aload_n 0, 1) := by decide +kernel
theorem dX10_feed_38 : decode cX10_feed 38 = .ok (.dup, 1) := by decide +kernel
theorem dX10_feed_39 : decode cX10_feed 39 = .ok (.getfield 86, 3) := by decide +kernel
theorem dX10_feed_42 : decode cX10_feed 42 = .ok (.iconst 1, 1) := by decide +kernel
theorem dX10_feed_43 : decode cX10_feed 43 = .ok (.iadd, 1) := by decide +kernel
theorem dX10_feed_44 : decode cX10_feed 44 = .ok (.putfield 86, 3) := by decide +kernel
theorem dX10_feed_47 : decode cX10_feed 47 = .ok (.aload_n 0, 1) := by decide +kernel
theorem dX10_feed_48 : decode cX10_feed 48 = .ok (.getfield 86, 3) := by decide +kernel
theorem dX10_feed_51 : decode cX10_feed 51 = .ok (.ireturn, 1) := by decide +kernel
set_option maxRecDepth 20000 in
theorem ggX10_town_X6_read : GoodIn wsX10_town wsX6_read := goodIn_r _ [17, 18, 19, 20, 21, 22, 23, 24, 25, 16, 26, 27, 28, 29, 30, 31, 32, 33, 34, 35, 36, 37, 38, 39, 40, 41, 42, 43, 44, 45, 46, 47, 48, 49, 50, 51, 52, 53, 54, 55, 56, 57, 58, 59, 60, 61, 62, 63, 64, 65, 66, 67, 68, 69, 70, 71, 72, 73, 74, 75, 76, 77, 78, 79, 80, 81, 82, 83, 84, 85, 86, 87, 88, 89, 90, 91, 92, 93, 94, 95, 96, 97, 98, 99, 100, 101, 102, 103, 104, 105, 106, 107, 108, 109, 110, 111, 112, 113, 114, 115, 116, 117, 118, 119, 120, 121, 122, 182, 183, 184, 185, 186, 187, 188, 189, 190, 191, 192, 193, 200, 201, 202, 203, 204, 205, 206, 207, 194, 195, 196, 197, 198, 199] (by decide +kernel) (by decide +kernel)
set_option maxRecDepth 20000 in
theorem gX10_town_X6_read : GoodIn wsX10_town (wsV RX10 98 RX6 yX6_read wsX6_read) := goodIn_app (goodIn_of _ (by decide +kernel)) ggX10_town_X6_read
set_option maxRecDepth 20000 in
theorem ggX10_town_X7_copyFrom : GoodIn wsX10_town wsX7_copyFrom := goodIn_r _ [126, 127, 128, 108, 109, 110, 44, 40, 41, 42, 43, 194, 195, 196, 197, 198, 199] (by decide +kernel) (by decide +kernel)
set_option maxRecDepth 20000 in
theorem gX10_town_X7_copyFrom : GoodIn wsX10_town (wsV RX10 104 RX7 yX7_copyFrom wsX7_copyFrom) := goodIn_app (goodIn_of _ (by decide +kernel)) ggX10_town_X7_copyFrom
set_option maxRecDepth 20000 in
theorem ggX10_town_X4_copyFrom : GoodIn wsX10_town wsX4_copyFrom := goodIn_r _ [133, 134, 135, 108, 109, 110, 136, 137, 138, 139, 140, 141, 142, 200, 201, 202, 203, 204, 205, 206, 207] (by decide +kernel) (by decide +kernel)
set_option maxRecDepth 20000 in
theorem gX10_town_X4_copyFrom : GoodIn wsX10_town (wsV RX10 111 RX4 yX4_copyFrom wsX4_copyFrom) := goodIn_app (goodIn_of _ (by decide +kernel)) ggX10_town_X4_copyFrom
set_option maxRecDepth 20000 in
theorem ggX10_town_X10_forgetSeen : GoodIn wsX10_town wsX10_forgetSeen := goodIn_r _ [147, 148, 149, 150, 151, 152, 153, 167, 168, 169, 170, 171, 172, 173, 174, 175, 176, 177, 178, 179, 180, 181, 208, 209, 210, 211, 212, 213, 214, 215, 216, 217, 218, 219] (by decide +kernel) (by decide +kernel)
set_option maxRecDepth 20000 in
theorem gX10_town_X10_forgetSeen : GoodIn wsX10_town (wsV RX10 114 RX10 yX10_forgetSeen wsX10_forgetSeen) := goodIn_app (goodIn_of _ (by decide +kernel)) ggX10_town_X10_forgetSeen
set_option maxRecDepth 20000 in
theorem ggX10_town_X5_clear : GoodIn wsX10_town wsX5_clear := goodIn_r _ [158, 159, 160, 220, 221, 222] (by decide +kernel) (by decide +kernel)
set_option maxRecDepth 20000 in
theorem gX10_town_X5_clear : GoodIn wsX10_town (wsV RX10 117 RX5 yX5_clear wsX5_clear) := goodIn_app (goodIn_of _ (by decide +kernel)) ggX10_town_X5_clear
set_option maxRecDepth 20000 in
theorem ggX10_town_X3_clear : GoodIn wsX10_town wsX3_clear := goodIn_r _ [165, 166, 223, 224, 225] (by decide +kernel) (by decide +kernel)
set_option maxRecDepth 20000 in
theorem gX10_town_X3_clear : GoodIn wsX10_town (wsV RX10 120 RX3 yX3_clear wsX3_clear) := goodIn_app (goodIn_of _ (by decide +kernel)) ggX10_town_X3_clear
theorem dX10_town_0 : decode cX10_town 0 = .ok (.aload_n 0, 1) := by decide +kernel
theorem dX10_town_1 : decode cX10_town 1 = .ok (.getfield 16, 3) := by decide +kernel
theorem dX10_town_4 : decode cX10_town 4 = .ok (.aload_n 0, 1) := by decide +kernel
theorem dX10_town_5 : decode cX10_town 5 = .ok (.getfield 9, 3) := by decide +kernel
theorem dX10_town_8 : decode cX10_town 8 = .ok (.aload_n 0, 1) := by decide +kernel
theorem dX10_town_9 : decode cX10_town 9 = .ok (.getfield 86, 3) := by decide +kernel
theorem dX10_town_12 : decode cX10_town 12 = .ok (.invokevirtual 98, 3) := by decide +kernel
theorem dX10_town_15 : decode cX10_town 15 = .ok (.istore_n 1, 1) := by decide +kernel
theorem dX10_town_16 : decode cX10_town 16 = .ok (.aload_n 0, 1) := by decide +kernel
theorem dX10_town_17 : decode cX10_town 17 = .ok (.iconst 0, 1) := by decide +kernel
theorem dX10_town_18 : decode cX10_town 18 = .ok (.putfield 86, 3) := by decide +kernel
theorem dX10_town_21 : decode cX10_town 21 = .ok (.aload_n 0, 1) := by decide +kernel
theorem dX10_town_22 : decode cX10_town 22 = .ok (.aload_n 0, 1) := by decide +kernel
theorem dX10_town_23 : decode cX10_town 23 = .ok (.getfield 16, 3) := by decide +kernel
theorem dX10_town_26 : decode cX10_town 26 = .ok (.getfield 102, 3) := by decide +kernel
theorem dX10_town_29 : decode cX10_town 29 = .ok (.putfield 90, 3) := by decide +kernel
theorem dX10_town_32 : decode cX10_town 32 = .ok (.iload_n 1, 1) := by decide +kernel
theorem dX10_town_33 : decode cX10_town 33 = .ok (.ifCond .eq 8, 3) := by decide +kernel
theorem dX10_town_36 : decode cX10_town 36 = .ok (.bipush (-10), 2) := by decide +kernel
theorem dX10_town_38 : decode cX10_town 38 = .ok (.iload_n 1, 1) := by decide +kernel
theorem dX10_town_39 : decode cX10_town 39 = .ok (.isub, 1) := by decide +kernel
theorem dX10_town_40 : decode cX10_town 40 = .ok (.ireturn, 1) := by decide +kernel
theorem dX10_town_41 : decode cX10_town 41 = .ok (.aload_n 0, 1) := by decide +kernel
theorem dX10_town_42 : decode cX10_town 42 = .ok (.getfield 23, 3) := by decide +kernel
theorem dX10_town_45 : decode cX10_town 45 = .ok (.aload_n 0, 1) := by decide +kernel
theorem dX10_town_46 : decode cX10_town 46 = .ok (.getfield 16, 3) := by decide +kernel
theorem dX10_town_49 : decode cX10_town 49 = .ok (.getfield 103, 3) := by decide +kernel
theorem dX10_town_52 : decode cX10_town 52 = .ok (.invokevirtual 104, 3) := by decide +kernel
theorem dX10_town_55 : decode cX10_town 55 = .ok (.aload_n 0, 1) := by decide +kernel
theorem dX10_town_56 : decode cX10_town 56 = .ok (.getfield 30, 3) := by decide +kernel
theorem dX10_town_59 : decode cX10_town 59 = .ok (.aload_n 0, 1) := by decide +kernel
theorem dX10_town_60 : decode cX10_town 60 = .ok (.getfield 16, 3) := by decide +kernel
theorem dX10_town_63 : decode cX10_town 63 = .ok (.getfield 108, 3) := by decide +kernel
theorem dX10_town_66 : decode cX10_town 66 = .ok (.invokevirtual 111, 3) := by decide +kernel
theorem dX10_town_69 : decode cX10_town 69 = .ok (.aload_n 0, 1) := by decide +kernel
theorem dX10_town_70 : decode cX10_town 70 = .ok (.invokevirtual 114, 3) := by decide +kernel
theorem dX10_town_73 : decode cX10_town 73 = .ok (.aload_n 0, 1) := by decide +kernel
theorem dX10_town_74 : decode cX10_town 74 = .ok (.getfield 37, 3) := by decide +kernel
theorem dX10_town_77 : decode cX10_town 77 = .ok (.invokevirtual 117, 3) := by decide +kernel
theorem dX10_town_80 : decode cX10_town 80 = .ok (.aload_n 0, 1) := by decide +kernel
theorem dX10_town_81 : decode cX10_town 81 = .ok (.getfield 44, 3) := by decide +kernel
theorem dX10_town_84 : decode cX10_town 84 = .ok (.invokevirtual 120, 3) := by decide +kernel
theorem dX10_town_87 : decode cX10_town 87 = .ok (.aload_n 0, 1) := by decide +kernel
theorem dX10_town_88 : decode cX10_town 88 = .ok (.getfield 23, 3) := by decide +kernel
theorem dX10_town_91 : decode cX10_town 91 = .ok (.getfield 121, 3) := by decide +kernel
theorem dX10_town_94 : decode cX10_town 94 = .ok (.ireturn, 1) := by decide +kernel
theorem dX10_fault_0 : decode cX10_fault 0 = .ok (.aload_n 0, 1) := by decide +kernel
theorem dX10_fault_1 : decode cX10_fault 1 = .ok (.getfield 90, 3) := by decide +kernel
theorem dX10_fault_4 : decode cX10_fault 4 = .ok (.ireturn, 1) := by decide +kernel
set_option maxRecDepth 20000 in
theorem ggX10_told_X7_weightOf : GoodIn wsX10_told wsX7_weightOf := goodIn_r _ [25, 26, 27, 28, 29, 30, 56, 57, 58, 59, 60, 61] (by decide +kernel) (by decide +kernel)
set_option maxRecDepth 20000 in
theorem gX10_told_X7_weightOf : GoodIn wsX10_told (wsV RX10 143 RX7 yX7_weightOf wsX7_weightOf) := goodIn_app (goodIn_of _ (by decide +kernel)) ggX10_told_X7_weightOf
set_option maxRecDepth 20000 in
theorem ggX10_told_X10_spreadOf : GoodIn wsX10_told wsX10_spreadOf := goodIn_r _ [33, 34, 35, 36, 37, 38, 39, 40] (by decide +kernel) (by decide +kernel)
set_option maxRecDepth 20000 in
theorem gX10_told_X10_spreadOf : GoodIn wsX10_told (va_wsS RX10 150 yX10_spreadOf wsX10_spreadOf) := goodIn_app (goodIn_of _ (by decide +kernel)) ggX10_told_X10_spreadOf
theorem dX10_told_0 : decode cX10_told 0 = .ok (.iload_n 1, 1) := by decide +kernel
theorem dX10_told_1 : decode cX10_told 1 = .ok (.tableswitch 205 0 13 #[71, 79, 87, 92, 100, 108, 116, 132, 140, 155, 173, 181, 189, 197], 71) := by decide +kernel
theorem dX10_told_72 : decode cX10_told 72 = .ok (.aload_n 0, 1) := by decide +kernel
theorem dX10_told_73 : decode cX10_told 73 = .ok (.getfield 23, 3) := by decide +kernel
theorem dX10_told_76 : decode cX10_told 76 = .ok (.getfield 121, 3) := by decide +kernel
theorem dX10_told_79 : decode cX10_told 79 = .ok (.ireturn, 1) := by decide +kernel
theorem dX10_told_80 : decode cX10_told 80 = .ok (.aload_n 0, 1) := by decide +kernel
theorem dX10_told_81 : decode cX10_told 81 = .ok (.getfield 23, 3) := by decide +kernel
theorem dX10_told_84 : decode cX10_told 84 = .ok (.getfield 124, 3) := by decide +kernel
theorem dX10_told_87 : decode cX10_told 87 = .ok (.ireturn, 1) := by decide +kernel
theorem dX10_told_88 : decode cX10_told 88 = .ok (.aload_n 0, 1) := by decide +kernel
theorem dX10_told_89 : decode cX10_told 89 = .ok (.getfield 86, 3) := by decide +kernel
theorem dX10_told_92 : decode cX10_told 92 = .ok (.ireturn, 1) := by decide +kernel
theorem dX10_told_93 : decode cX10_told 93 = .ok (.aload_n 0, 1) := by decide +kernel
theorem dX10_told_94 : decode cX10_told 94 = .ok (.getfield 30, 3) := by decide +kernel
theorem dX10_told_97 : decode cX10_told 97 = .ok (.getfield 127, 3) := by decide +kernel
theorem dX10_told_100 : decode cX10_told 100 = .ok (.ireturn, 1) := by decide +kernel
theorem dX10_told_101 : decode cX10_told 101 = .ok (.aload_n 0, 1) := by decide +kernel
theorem dX10_told_102 : decode cX10_told 102 = .ok (.getfield 30, 3) := by decide +kernel
theorem dX10_told_105 : decode cX10_told 105 = .ok (.getfield 130, 3) := by decide +kernel
theorem dX10_told_108 : decode cX10_told 108 = .ok (.ireturn, 1) := by decide +kernel
theorem dX10_told_109 : decode cX10_told 109 = .ok (.aload_n 0, 1) := by decide +kernel
theorem dX10_told_110 : decode cX10_told 110 = .ok (.getfield 23, 3) := by decide +kernel
theorem dX10_told_113 : decode cX10_told 113 = .ok (.getfield 133, 3) := by decide +kernel
theorem dX10_told_116 : decode cX10_told 116 = .ok (.ireturn, 1) := by decide +kernel
theorem dX10_told_117 : decode cX10_told 117 = .ok (.aload_n 0, 1) := by decide +kernel
theorem dX10_told_118 : decode cX10_told 118 = .ok (.getfield 23, 3) := by decide +kernel
theorem dX10_told_121 : decode cX10_told 121 = .ok (.getfield 136, 3) := by decide +kernel
theorem dX10_told_124 : decode cX10_told 124 = .ok (.ifCond .eq 7, 3) := by decide +kernel
theorem dX10_told_127 : decode cX10_told 127 = .ok (.iconst 1, 1) := by decide +kernel
theorem dX10_told_128 : decode cX10_told 128 = .ok (.goto 4, 3) := by decide +kernel
theorem dX10_told_131 : decode cX10_told 131 = .ok (.iconst 0, 1) := by decide +kernel
theorem dX10_told_132 : decode cX10_told 132 = .ok (.ireturn, 1) := by decide +kernel
theorem dX10_told_133 : decode cX10_told 133 = .ok (.aload_n 0, 1) := by decide +kernel
theorem dX10_told_134 : decode cX10_told 134 = .ok (.getfield 30, 3) := by decide +kernel
theorem dX10_told_137 : decode cX10_told 137 = .ok (.getfield 140, 3) := by decide +kernel
theorem dX10_told_140 : decode cX10_told 140 = .ok (.ireturn, 1) := by decide +kernel
theorem dX10_told_141 : decode cX10_told 141 = .ok (.aload_n 0, 1) := by decide +kernel
theorem dX10_told_142 : decode cX10_told 142 = .ok (.getfield 23, 3) := by decide +kernel
theorem dX10_told_145 : decode cX10_told 145 = .ok (.aload_n 0, 1) := by decide +kernel
theorem dX10_told_146 : decode cX10_told 146 = .ok (.getfield 30, 3) := by decide +kernel
theorem dX10_told_149 : decode cX10_told 149 = .ok (.getfield 140, 3) := by decide +kernel
theorem dX10_told_152 : decode cX10_told 152 = .ok (.invokevirtual 143, 3) := by decide +kernel
theorem dX10_told_155 : decode cX10_told 155 = .ok (.ireturn, 1) := by decide +kernel
theorem dX10_told_156 : decode cX10_told 156 = .ok (.aload_n 0, 1) := by decide +kernel
theorem dX10_told_157 : decode cX10_told 157 = .ok (.getfield 30, 3) := by decide +kernel
theorem dX10_told_160 : decode cX10_told 160 = .ok (.getfield 147, 3) := by decide +kernel
theorem dX10_told_163 : decode cX10_told 163 = .ok (.aload_n 0, 1) := by decide +kernel
theorem dX10_told_164 : decode cX10_told 164 = .ok (.getfield 23, 3) := by decide +kernel
theorem dX10_told_167 : decode cX10_told 167 = .ok (.getfield 121, 3) := by decide +kernel
theorem dX10_told_170 : decode cX10_told 170 = .ok (.invokestatic 150, 3) := by decide +kernel
theorem dX10_told_173 : decode cX10_told 173 = .ok (.ireturn, 1) := by decide +kernel
theorem dX10_told_174 : decode cX10_told 174 = .ok (.aload_n 0, 1) := by decide +kernel
theorem dX10_told_175 : decode cX10_told 175 = .ok (.getfield 65, 3) := by decide +kernel
theorem dX10_told_178 : decode cX10_told 178 = .ok (.getfield 153, 3) := by decide +kernel
theorem dX10_told_181 : decode cX10_told 181 = .ok (.ireturn, 1) := by decide +kernel
theorem dX10_told_182 : decode cX10_told 182 = .ok (.aload_n 0, 1) := by decide +kernel
theorem dX10_told_183 : decode cX10_told 183 = .ok (.getfield 72, 3) := by decide +kernel
theorem dX10_told_186 : decode cX10_told 186 = .ok (.getfield 156, 3) := by decide +kernel
theorem dX10_told_189 : decode cX10_told 189 = .ok (.ireturn, 1) := by decide +kernel
theorem dX10_told_190 : decode cX10_told 190 = .ok (.aload_n 0, 1) := by decide +kernel
theorem dX10_told_191 : decode cX10_told 191 = .ok (.getfield 79, 3) := by decide +kernel
theorem dX10_told_194 : decode cX10_told 194 = .ok (.getfield 157, 3) := by decide +kernel
theorem dX10_told_197 : decode cX10_told 197 = .ok (.ireturn, 1) := by decide +kernel
theorem dX10_told_198 : decode cX10_told 198 = .ok (.aload_n 0, 1) := by decide +kernel
theorem dX10_told_199 : decode cX10_told 199 = .ok (.getfield 37, 3) := by decide +kernel
theorem dX10_told_202 : decode cX10_told 202 = .ok (.getfield 160, 3) := by decide +kernel
theorem dX10_told_205 : decode cX10_told 205 = .ok (.ireturn, 1) := by decide +kernel
theorem dX10_told_206 : decode cX10_told 206 = .ok (.ldc 96, 2) := by decide +kernel
theorem dX10_told_208 : decode cX10_told 208 = .ok (.ireturn, 1) := by decide +kernel
set_option maxRecDepth 20000 in
theorem ggX10_person_X10_isPerson : GoodIn wsX10_person wsX10_isPerson := goodIn_r _ [12, 5, 13, 35, 36, 37, 38, 39, 40, 41, 42, 43, 44, 45, 46, 47, 48, 49, 58, 59, 60, 61, 62, 63] (by decide +kernel) (by decide +kernel)
set_option maxRecDepth 20000 in
theorem gX10_person_X10_isPerson : GoodIn wsX10_person (wsV RX10 163 RX10 yX10_isPerson wsX10_isPerson) := goodIn_app (goodIn_of _ (by decide +kernel)) ggX10_person_X10_isPerson
set_option maxRecDepth 20000 in
theorem ggX10_person_X7_rightsAt : GoodIn wsX10_person wsX7_rightsAt := goodIn_r _ [18, 19, 58, 59, 60, 61, 62, 63] (by decide +kernel) (by decide +kernel)
set_option maxRecDepth 20000 in
theorem gX10_person_X7_rightsAt : GoodIn wsX10_person (wsV RX10 171 RX7 yX7_rightsAt wsX7_rightsAt) := goodIn_app (goodIn_of _ (by decide +kernel)) ggX10_person_X7_rightsAt
set_option maxRecDepth 20000 in
theorem ggX10_person_X4_heldBy : GoodIn wsX10_person wsX4_heldBy := goodIn_r _ [24, 25, 50, 51, 52, 53, 54, 55, 56, 57] (by decide +kernel) (by decide +kernel)
set_option maxRecDepth 20000 in
theorem gX10_person_X4_heldBy : GoodIn wsX10_person (wsV RX10 174 RX4 yX4_heldBy wsX4_heldBy) := goodIn_app (goodIn_of _ (by decide +kernel)) ggX10_person_X4_heldBy
set_option maxRecDepth 20000 in
theorem ggX10_person_X4_agingFor : GoodIn wsX10_person wsX4_agingFor := goodIn_r _ [29, 30, 31, 32, 23, 33, 34, 25, 50, 51, 52, 53, 54, 55, 56, 57] (by decide +kernel) (by decide +kernel)
set_option maxRecDepth 20000 in
theorem gX10_person_X4_agingFor : GoodIn wsX10_person (wsV RX10 178 RX4 yX4_agingFor wsX4_agingFor) := goodIn_app (goodIn_of _ (by decide +kernel)) ggX10_person_X4_agingFor
theorem dX10_person_0 : decode cX10_person 0 = .ok (.aload_n 0, 1) := by decide +kernel
theorem dX10_person_1 : decode cX10_person 1 = .ok (.iload_n 1, 1) := by decide +kernel
theorem dX10_person_2 : decode cX10_person 2 = .ok (.invokevirtual 163, 3) := by decide +kernel
theorem dX10_person_5 : decode cX10_person 5 = .ok (.ifCond .ne 6, 3) := by decide +kernel
theorem dX10_person_8 : decode cX10_person 8 = .ok (.ldc 167, 2) := by decide +kernel
theorem dX10_person_10 : decode cX10_person 10 = .ok (.ireturn, 1) := by decide +kernel
theorem dX10_person_11 : decode cX10_person 11 = .ok (.iload_n 2, 1) := by decide +kernel
theorem dX10_person_12 : decode cX10_person 12 = .ok (.tableswitch 105 0 4 #[36, 46, 56, 73, 89], 36) := by decide +kernel
theorem dX10_person_48 : decode cX10_person 48 = .ok (.aload_n 0, 1) := by decide +kernel
theorem dX10_person_49 : decode cX10_person 49 = .ok (.getfield 30, 3) := by decide +kernel
theorem dX10_person_52 : decode cX10_person 52 = .ok (.getfield 147, 3) := by decide +kernel
theorem dX10_person_55 : decode cX10_person 55 = .ok (.iload_n 1, 1) := by decide +kernel
theorem dX10_person_56 : decode cX10_person 56 = .ok (.iaload, 1) := by decide +kernel
theorem dX10_person_57 : decode cX10_person 57 = .ok (.ireturn, 1) := by decide +kernel
theorem dX10_person_58 : decode cX10_person 58 = .ok (.aload_n 0, 1) := by decide +kernel
theorem dX10_person_59 : decode cX10_person 59 = .ok (.getfield 30, 3) := by decide +kernel
theorem dX10_person_62 : decode cX10_person 62 = .ok (.getfield 168, 3) := by decide +kernel
theorem dX10_person_65 : decode cX10_person 65 = .ok (.iload_n 1, 1) := by decide +kernel
theorem dX10_person_66 : decode cX10_person 66 = .ok (.iaload, 1) := by decide +kernel
theorem dX10_person_67 : decode cX10_person 67 = .ok (.ireturn, 1) := by decide +kernel
theorem dX10_person_68 : decode cX10_person 68 = .ok (.aload_n 0, 1) := by decide +kernel
theorem dX10_person_69 : decode cX10_person 69 = .ok (.getfield 23, 3) := by decide +kernel
theorem dX10_person_72 : decode cX10_person 72 = .ok (.aload_n 0, 1) := by decide +kernel
theorem dX10_person_73 : decode cX10_person 73 = .ok (.getfield 30, 3) := by decide +kernel
theorem dX10_person_76 : decode cX10_person 76 = .ok (.getfield 147, 3) := by decide +kernel
theorem dX10_person_79 : decode cX10_person 79 = .ok (.iload_n 1, 1) := by decide +kernel
theorem dX10_person_80 : decode cX10_person 80 = .ok (.iaload, 1) := by decide +kernel
theorem dX10_person_81 : decode cX10_person 81 = .ok (.invokevirtual 171, 3) := by decide +kernel
theorem dX10_person_84 : decode cX10_person 84 = .ok (.ireturn, 1) := by decide +kernel
theorem dX10_person_85 : decode cX10_person 85 = .ok (.aload_n 0, 1) := by decide +kernel
theorem dX10_person_86 : decode cX10_person 86 = .ok (.getfield 30, 3) := by decide +kernel
theorem dX10_person_89 : decode cX10_person 89 = .ok (.iload_n 1, 1) := by decide +kernel
theorem dX10_person_90 : decode cX10_person 90 = .ok (.aload_n 0, 1) := by decide +kernel
theorem dX10_person_91 : decode cX10_person 91 = .ok (.getfield 23, 3) := by decide +kernel
theorem dX10_person_94 : decode cX10_person 94 = .ok (.getfield 124, 3) := by decide +kernel
theorem dX10_person_97 : decode cX10_person 97 = .ok (.invokevirtual 174, 3) := by decide +kernel
theorem dX10_person_100 : decode cX10_person 100 = .ok (.ireturn, 1) := by decide +kernel
theorem dX10_person_101 : decode cX10_person 101 = .ok (.aload_n 0, 1) := by decide +kernel
theorem dX10_person_102 : decode cX10_person 102 = .ok (.getfield 30, 3) := by decide +kernel
theorem dX10_person_105 : decode cX10_person 105 = .ok (.iload_n 1, 1) := by decide +kernel
theorem dX10_person_106 : decode cX10_person 106 = .ok (.aload_n 0, 1) := by decide +kernel
theorem dX10_person_107 : decode cX10_person 107 = .ok (.getfield 23, 3) := by decide +kernel
theorem dX10_person_110 : decode cX10_person 110 = .ok (.getfield 124, 3) := by decide +kernel
theorem dX10_person_113 : decode cX10_person 113 = .ok (.invokevirtual 178, 3) := by decide +kernel
theorem dX10_person_116 : decode cX10_person 116 = .ok (.ireturn, 1) := by decide +kernel
theorem dX10_person_117 : decode cX10_person 117 = .ok (.ldc 96, 2) := by decide +kernel
theorem dX10_person_119 : decode cX10_person 119 = .ok (.ireturn, 1) := by decide +kernel
set_option maxRecDepth 20000 in
theorem ggX10_ticket_X10_isTicket : GoodIn wsX10_ticket wsX10_isTicket := goodIn_r _ [13, 4, 14, 15, 16, 17, 18, 19, 20, 21, 22, 23, 24, 25, 26, 27, 28, 29, 38, 39, 40, 41, 42, 43] (by decide +kernel) (by decide +kernel)
set_option maxRecDepth 20000 in
theorem gX10_ticket_X10_isTicket : GoodIn wsX10_ticket (wsV RX10 181 RX10 yX10_isTicket wsX10_isTicket) := goodIn_app (goodIn_of _ (by decide +kernel)) ggX10_ticket_X10_isTicket
theorem dX10_ticket_0 : decode cX10_ticket 0 = .ok (.aload_n 0, 1) := by decide +kernel
theorem dX10_ticket_1 : decode cX10_ticket 1 = .ok (.iload_n 1, 1) := by decide +kernel
theorem dX10_ticket_2 : decode cX10_ticket 2 = .ok (.invokevirtual 181, 3) := by decide +kernel
theorem dX10_ticket_5 : decode cX10_ticket 5 = .ok (.ifCond .ne 6, 3) := by decide +kernel
theorem dX10_ticket_8 : decode cX10_ticket 8 = .ok (.ldc 167, 2) := by decide +kernel
theorem dX10_ticket_10 : decode cX10_ticket 10 = .ok (.ireturn, 1) := by decide +kernel
theorem dX10_ticket_11 : decode cX10_ticket 11 = .ok (.iload_n 2, 1) := by decide +kernel
theorem dX10_ticket_12 : decode cX10_ticket 12 = .ok (.tableswitch 72 0 3 #[32, 42, 52, 62], 32) := by decide +kernel
theorem dX10_ticket_44 : decode cX10_ticket 44 = .ok (.aload_n 0, 1) := by decide +kernel
theorem dX10_ticket_45 : decode cX10_ticket 45 = .ok (.getfield 30, 3) := by decide +kernel
theorem dX10_ticket_48 : decode cX10_ticket 48 = .ok (.getfield 184, 3) := by decide +kernel
theorem dX10_ticket_51 : decode cX10_ticket 51 = .ok (.iload_n 1, 1) := by decide +kernel
theorem dX10_ticket_52 : decode cX10_ticket 52 = .ok (.iaload, 1) := by decide +kernel
theorem dX10_ticket_53 : decode cX10_ticket 53 = .ok (.ireturn, 1) := by decide +kernel
theorem dX10_ticket_54 : decode cX10_ticket 54 = .ok (.aload_n 0, 1) := by decide +kernel
theorem dX10_ticket_55 : decode cX10_ticket 55 = .ok (.getfield 23, 3) := by decide +kernel
theorem dX10_ticket_58 : decode cX10_ticket 58 = .ok (.getfield 187, 3) := by decide +kernel
theorem dX10_ticket_61 : decode cX10_ticket 61 = .ok (.iload_n 1, 1) := by decide +kernel
theorem dX10_ticket_62 : decode cX10_ticket 62 = .ok (.iaload, 1) := by decide +kernel
theorem dX10_ticket_63 : decode cX10_ticket 63 = .ok (.ireturn, 1) := by decide +kernel
theorem dX10_ticket_64 : decode cX10_ticket 64 = .ok (.aload_n 0, 1) := by decide +kernel
theorem dX10_ticket_65 : decode cX10_ticket 65 = .ok (.getfield 30, 3) := by decide +kernel
theorem dX10_ticket_68 : decode cX10_ticket 68 = .ok (.getfield 190, 3) := by decide +kernel
theorem dX10_ticket_71 : decode cX10_ticket 71 = .ok (.iload_n 1, 1) := by decide +kernel
theorem dX10_ticket_72 : decode cX10_ticket 72 = .ok (.iaload, 1) := by decide +kernel
theorem dX10_ticket_73 : decode cX10_ticket 73 = .ok (.ireturn, 1) := by decide +kernel
theorem dX10_ticket_74 : decode cX10_ticket 74 = .ok (.aload_n 0, 1) := by decide +kernel
theorem dX10_ticket_75 : decode cX10_ticket 75 = .ok (.getfield 30, 3) := by decide +kernel
theorem dX10_ticket_78 : decode cX10_ticket 78 = .ok (.getfield 193, 3) := by decide +kernel
theorem dX10_ticket_81 : decode cX10_ticket 81 = .ok (.iload_n 1, 1) := by decide +kernel
theorem dX10_ticket_82 : decode cX10_ticket 82 = .ok (.iaload, 1) := by decide +kernel
theorem dX10_ticket_83 : decode cX10_ticket 83 = .ok (.ireturn, 1) := by decide +kernel
theorem dX10_ticket_84 : decode cX10_ticket 84 = .ok (.ldc 96, 2) := by decide +kernel
theorem dX10_ticket_86 : decode cX10_ticket 86 = .ok (.ireturn, 1) := by decide +kernel
set_option maxRecDepth 20000 in
theorem ggX10_right_X10_isRight : GoodIn wsX10_right wsX10_isRight := goodIn_r _ [7] (by decide +kernel) (by decide +kernel)
set_option maxRecDepth 20000 in
theorem gX10_right_X10_isRight : GoodIn wsX10_right (va_wsS RX10 196 yX10_isRight wsX10_isRight) := goodIn_app (goodIn_of _ (by decide +kernel)) ggX10_right_X10_isRight
theorem dX10_right_0 : decode cX10_right 0 = .ok (.iload_n 1, 1) := by decide +kernel
theorem dX10_right_1 : decode cX10_right 1 = .ok (.invokestatic 196, 3) := by decide +kernel
theorem dX10_right_4 : decode cX10_right 4 = .ok (.ifCond .ne 6, 3) := by decide +kernel
theorem dX10_right_7 : decode cX10_right 7 = .ok (.ldc 96, 2) := by decide +kernel
theorem dX10_right_9 : decode cX10_right 9 = .ok (.ireturn, 1) := by decide +kernel
theorem dX10_right_10 : decode cX10_right 10 = .ok (.aload_n 0, 1) := by decide +kernel
theorem dX10_right_11 : decode cX10_right 11 = .ok (.getfield 23, 3) := by decide +kernel
theorem dX10_right_14 : decode cX10_right 14 = .ok (.getfield 199, 3) := by decide +kernel
theorem dX10_right_17 : decode cX10_right 17 = .ok (.iload_n 1, 1) := by decide +kernel
theorem dX10_right_18 : decode cX10_right 18 = .ok (.iaload, 1) := by decide +kernel
theorem dX10_right_19 : decode cX10_right 19 = .ok (.ireturn, 1) := by decide +kernel
set_option maxRecDepth 20000 in
theorem ggX10_draw_X10_isTicket : GoodIn wsX10_draw wsX10_isTicket := goodIn_r _ [12, 13, 14, 92, 93, 94, 95, 96, 97, 98, 99, 100, 101, 102, 103, 104, 105, 106, 115, 116, 117, 118, 119, 120] (by decide +kernel) (by decide +kernel)
set_option maxRecDepth 20000 in
theorem gX10_draw_X10_isTicket : GoodIn wsX10_draw (wsV RX10 181 RX10 yX10_isTicket wsX10_isTicket) := goodIn_app (goodIn_of _ (by decide +kernel)) ggX10_draw_X10_isTicket
set_option maxRecDepth 20000 in
theorem ggX10_draw_X10_holds : GoodIn wsX10_draw wsX10_holds := goodIn_r _ [17] (by decide +kernel) (by decide +kernel)
set_option maxRecDepth 20000 in
theorem gX10_draw_X10_holds : GoodIn wsX10_draw (va_wsS RX10 202 yX10_holds wsX10_holds) := goodIn_app (goodIn_of _ (by decide +kernel)) ggX10_draw_X10_holds
set_option maxRecDepth 20000 in
theorem ggX10_draw_X10_drawTicket : GoodIn wsX10_draw wsX10_drawTicket := goodIn_r _ [21, 22, 2, 13, 23, 24, 25, 26, 27, 28, 29, 30, 31, 32, 33, 34, 35, 36, 37, 38, 39, 40, 41, 42, 43, 44, 45, 46, 47, 48, 49, 50, 51, 52, 53, 54, 55, 56, 57, 58, 59, 60, 11, 61, 62, 63, 64, 65, 66, 67, 68, 69, 70, 71, 72, 73, 74, 75, 76, 77, 78, 79, 80, 81, 82, 83, 84, 85, 86, 87, 88, 89, 90, 91, 92, 93, 94, 95, 96, 97, 98, 99, 100, 101, 102, 103, 104, 105, 106, 121, 122, 123, 107, 108, 109, 110, 111, 112, 113, 114, 115, 116, 117, 118, 119, 120] (by decide +kernel) (by decide +kernel)
set_option maxRecDepth 20000 in
theorem gX10_draw_X10_drawTicket : GoodIn wsX10_draw (wsV RX10 208 RX10 yX10_drawTicket wsX10_drawTicket) := goodIn_app (goodIn_of _ (by decide +kernel)) ggX10_draw_X10_drawTicket
theorem dX10_draw_0 : decode cX10_draw 0 = .ok (.aload_n 0, 1) := by decide +kernel
theorem dX10_draw_1 : decode cX10_draw 1 = .ok (.iload_n 1, 1) := by decide +kernel
theorem dX10_draw_2 : decode cX10_draw 2 = .ok (.invokevirtual 181, 3) := by decide +kernel
theorem dX10_draw_5 : decode cX10_draw 5 = .ok (.ifCond .ne 6, 3) := by decide +kernel
theorem dX10_draw_8 : decode cX10_draw 8 = .ok (.ldc 167, 2) := by decide +kernel
theorem dX10_draw_10 : decode cX10_draw 10 = .ok (.ireturn, 1) := by decide +kernel
theorem dX10_draw_11 : decode cX10_draw 11 = .ok (.aload_n 0, 1) := by decide +kernel
theorem dX10_draw_12 : decode cX10_draw 12 = .ok (.getfield 30, 3) := by decide +kernel
theorem dX10_draw_15 : decode cX10_draw 15 = .ok (.getfield 140, 3) := by decide +kernel
theorem dX10_draw_18 : decode cX10_draw 18 = .ok (.iload_n 1, 1) := by decide +kernel
theorem dX10_draw_19 : decode cX10_draw 19 = .ok (.invokestatic 202, 3) := by decide +kernel
theorem dX10_draw_22 : decode cX10_draw 22 = .ok (.ifCond .ne 6, 3) := by decide +kernel
theorem dX10_draw_25 : decode cX10_draw 25 = .ok (.ldc 206, 2) := by decide +kernel
theorem dX10_draw_27 : decode cX10_draw 27 = .ok (.ireturn, 1) := by decide +kernel
theorem dX10_draw_28 : decode cX10_draw 28 = .ok (.aload_n 0, 1) := by decide +kernel
theorem dX10_draw_29 : decode cX10_draw 29 = .ok (.getfield 30, 3) := by decide +kernel
theorem dX10_draw_32 : decode cX10_draw 32 = .ok (.getfield 127, 3) := by decide +kernel
theorem dX10_draw_35 : decode cX10_draw 35 = .ok (.ldc 207, 2) := by decide +kernel
theorem dX10_draw_37 : decode cX10_draw 37 = .ok (.if_icmp .le 6, 3) := by decide +kernel
theorem dX10_draw_40 : decode cX10_draw 40 = .ok (.ldc 97, 2) := by decide +kernel
theorem dX10_draw_42 : decode cX10_draw 42 = .ok (.ireturn, 1) := by decide +kernel
theorem dX10_draw_43 : decode cX10_draw 43 = .ok (.aload_n 0, 1) := by decide +kernel
theorem dX10_draw_44 : decode cX10_draw 44 = .ok (.iload_n 1, 1) := by decide +kernel
theorem dX10_draw_45 : decode cX10_draw 45 = .ok (.invokevirtual 208, 3) := by decide +kernel
theorem dX10_draw_48 : decode cX10_draw 48 = .ok (.ireturn, 1) := by decide +kernel
set_option maxRecDepth 20000 in
theorem ggX10_lots_X10_nextSeed : GoodIn wsX10_lots wsX10_nextSeed := goodIn_r _ [14, 15, 16, 17] (by decide +kernel) (by decide +kernel)
set_option maxRecDepth 20000 in
theorem gX10_lots_X10_nextSeed : GoodIn wsX10_lots (va_wsS RX10 211 yX10_nextSeed wsX10_nextSeed) := goodIn_app (goodIn_of _ (by decide +kernel)) ggX10_lots_X10_nextSeed
set_option maxRecDepth 20000 in
theorem ggX10_lots_X7_weightOf : GoodIn wsX10_lots wsX7_weightOf := goodIn_r _ [22, 23, 24, 25, 13, 26, 122, 123, 124, 125, 126, 127] (by decide +kernel) (by decide +kernel)
set_option maxRecDepth 20000 in
theorem gX10_lots_X7_weightOf : GoodIn wsX10_lots (wsV RX10 143 RX7 yX7_weightOf wsX7_weightOf) := goodIn_app (goodIn_of _ (by decide +kernel)) ggX10_lots_X7_weightOf
set_option maxRecDepth 20000 in
theorem ggX10_lots_X10_lotOf : GoodIn wsX10_lots wsX10_lotOf := goodIn_r _ [29, 30] (by decide +kernel) (by decide +kernel)
set_option maxRecDepth 20000 in
theorem gX10_lots_X10_lotOf : GoodIn wsX10_lots (va_wsS RX10 214 yX10_lotOf wsX10_lotOf) := goodIn_app (goodIn_of _ (by decide +kernel)) ggX10_lots_X10_lotOf
set_option maxRecDepth 20000 in
theorem ggX10_lots_X7_ticketAt : GoodIn wsX10_lots wsX7_ticketAt := goodIn_r _ [34, 23, 24, 25, 13, 26, 122, 123, 124, 125, 126, 127] (by decide +kernel) (by decide +kernel)
set_option maxRecDepth 20000 in
theorem gX10_lots_X7_ticketAt : GoodIn wsX10_lots (wsV RX10 217 RX7 yX7_ticketAt wsX7_ticketAt) := goodIn_app (goodIn_of _ (by decide +kernel)) ggX10_lots_X7_ticketAt
set_option maxRecDepth 20000 in
theorem ggX10_lots_X10_drawTicket : GoodIn wsX10_lots wsX10_drawTicket := goodIn_r _ [38, 39, 5, 2, 40, 41, 42, 43, 44, 45, 46, 47, 48, 49, 50, 51, 52, 53, 54, 55, 56, 57, 58, 59, 60, 61, 62, 63, 64, 65, 66, 67, 68, 69, 70, 71, 72, 73, 74, 75, 76, 77, 13, 78, 79, 80, 81, 82, 83, 84, 85, 86, 21, 87, 88, 89, 90, 91, 92, 93, 94, 95, 96, 97, 98, 99, 100, 101, 102, 23, 103, 104, 105, 106, 107, 108, 109, 110, 111, 112, 113, 114, 115, 116, 117, 118, 119, 120, 121, 136, 137, 138, 128, 129, 130, 131, 132, 133, 134, 135, 122, 123, 124, 125, 126, 127] (by decide +kernel) (by decide +kernel)
set_option maxRecDepth 20000 in
theorem gX10_lots_X10_drawTicket : GoodIn wsX10_lots (wsV RX10 208 RX10 yX10_drawTicket wsX10_drawTicket) := goodIn_app (goodIn_of _ (by decide +kernel)) ggX10_lots_X10_drawTicket
theorem dX10_lots_0 : decode cX10_lots 0 = .ok (.iload_n 1, 1) := by decide +kernel
theorem dX10_lots_1 : decode cX10_lots 1 = .ok (.iconst 1, 1) := by decide +kernel
theorem dX10_lots_2 : decode cX10_lots 2 = .ok (.if_icmp .lt 9, 3) := by decide +kernel
theorem dX10_lots_5 : decode cX10_lots 5 = .ok (.iload_n 1, 1) := by decide +kernel
theorem dX10_lots_6 : decode cX10_lots 6 = .ok (.bipush 99, 2) := by decide +kernel
theorem dX10_lots_8 : decode cX10_lots 8 = .ok (.if_icmp .le 6, 3) := by decide +kernel
theorem dX10_lots_11 : decode cX10_lots 11 = .ok (.ldc 96, 2) := by decide +kernel
theorem dX10_lots_13 : decode cX10_lots 13 = .ok (.ireturn, 1) := by decide +kernel
theorem dX10_lots_14 : decode cX10_lots 14 = .ok (.aload_n 0, 1) := by decide +kernel
theorem dX10_lots_15 : decode cX10_lots 15 = .ok (.getfield 23, 3) := by decide +kernel
theorem dX10_lots_18 : decode cX10_lots 18 = .ok (.getfield 124, 3) := by decide +kernel
theorem dX10_lots_21 : decode cX10_lots 21 = .ok (.ifCond .ne 6, 3) := by decide +kernel
theorem dX10_lots_24 : decode cX10_lots 24 = .ok (.ldc 206, 2) := by decide +kernel
theorem dX10_lots_26 : decode cX10_lots 26 = .ok (.ireturn, 1) := by decide +kernel
theorem dX10_lots_27 : decode cX10_lots 27 = .ok (.aload_n 0, 1) := by decide +kernel
theorem dX10_lots_28 : decode cX10_lots 28 = .ok (.getfield 30, 3) := by decide +kernel
theorem dX10_lots_31 : decode cX10_lots 31 = .ok (.getfield 127, 3) := by decide +kernel
theorem dX10_lots_34 : decode cX10_lots 34 = .ok (.ldc 207, 2) := by decide +kernel
theorem dX10_lots_36 : decode cX10_lots 36 = .ok (.if_icmp .le 6, 3) := by decide +kernel
theorem dX10_lots_39 : decode cX10_lots 39 = .ok (.ldc 97, 2) := by decide +kernel
theorem dX10_lots_41 : decode cX10_lots 41 = .ok (.ireturn, 1) := by decide +kernel
theorem dX10_lots_42 : decode cX10_lots 42 = .ok (.iconst (-1), 1) := by decide +kernel
theorem dX10_lots_43 : decode cX10_lots 43 = .ok (.istore_n 2, 1) := by decide +kernel
theorem dX10_lots_44 : decode cX10_lots 44 = .ok (.iconst 0, 1) := by decide +kernel
theorem dX10_lots_45 : decode cX10_lots 45 = .ok (.istore_n 3, 1) := by decide +kernel
theorem dX10_lots_46 : decode cX10_lots 46 = .ok (.iload_n 3, 1) := by decide +kernel
theorem dX10_lots_47 : decode cX10_lots 47 = .ok (.iload_n 1, 1) := by decide +kernel
theorem dX10_lots_48 : decode cX10_lots 48 = .ok (.if_icmp .ge 62, 3) := by decide +kernel
theorem dX10_lots_51 : decode cX10_lots 51 = .ok (.aload_n 0, 1) := by decide +kernel
theorem dX10_lots_52 : decode cX10_lots 52 = .ok (.aload_n 0, 1) := by decide +kernel
theorem dX10_lots_53 : decode cX10_lots 53 = .ok (.getfield 93, 3) := by decide +kernel
theorem dX10_lots_56 : decode cX10_lots 56 = .ok (.invokestatic 211, 3) := by decide +kernel
theorem dX10_lots_59 : decode cX10_lots 59 = .ok (.putfield 93, 3) := by decide +kernel
theorem dX10_lots_62 : decode cX10_lots 62 = .ok (.aload_n 0, 1) := by decide +kernel
theorem dX10_lots_63 : decode cX10_lots 63 = .ok (.getfield 23, 3) := by decide +kernel
theorem dX10_lots_66 : decode cX10_lots 66 = .ok (.aload_n 0, 1) := by decide +kernel
theorem dX10_lots_67 : decode cX10_lots 67 = .ok (.getfield 30, 3) := by decide +kernel
theorem dX10_lots_70 : decode cX10_lots 70 = .ok (.getfield 140, 3) := by decide +kernel
theorem dX10_lots_73 : decode cX10_lots 73 = .ok (.aload_n 0, 1) := by decide +kernel
theorem dX10_lots_74 : decode cX10_lots 74 = .ok (.getfield 93, 3) := by decide +kernel
theorem dX10_lots_77 : decode cX10_lots 77 = .ok (.aload_n 0, 1) := by decide +kernel
theorem dX10_lots_78 : decode cX10_lots 78 = .ok (.getfield 23, 3) := by decide +kernel
theorem dX10_lots_81 : decode cX10_lots 81 = .ok (.aload_n 0, 1) := by decide +kernel
theorem dX10_lots_82 : decode cX10_lots 82 = .ok (.getfield 30, 3) := by decide +kernel
theorem dX10_lots_85 : decode cX10_lots 85 = .ok (.getfield 140, 3) := by decide +kernel
theorem dX10_lots_88 : decode cX10_lots 88 = .ok (.invokevirtual 143, 3) := by decide +kernel
theorem dX10_lots_91 : decode cX10_lots 91 = .ok (.invokestatic 214, 3) := by decide +kernel
theorem dX10_lots_94 : decode cX10_lots 94 = .ok (.invokevirtual 217, 3) := by decide +kernel
theorem dX10_lots_97 : decode cX10_lots 97 = .ok (.istore_n 2, 1) := by decide +kernel
theorem dX10_lots_98 : decode cX10_lots 98 = .ok (.aload_n 0, 1) := by decide +kernel
theorem dX10_lots_99 : decode cX10_lots 99 = .ok (.iload_n 2, 1) := by decide +kernel
theorem dX10_lots_100 : decode cX10_lots 100 = .ok (.invokevirtual 208, 3) := by decide +kernel
theorem dX10_lots_103 : decode cX10_lots 103 = .ok (.pop, 1) := by decide +kernel
theorem dX10_lots_104 : decode cX10_lots 104 = .ok (.iinc 3 1, 3) := by decide +kernel
theorem dX10_lots_107 : decode cX10_lots 107 = .ok (.goto (-61), 3) := by decide +kernel
theorem dX10_lots_110 : decode cX10_lots 110 = .ok (.iload_n 2, 1) := by decide +kernel
theorem dX10_lots_111 : decode cX10_lots 111 = .ok (.ireturn, 1) := by decide +kernel
set_option maxRecDepth 20000 in
theorem ggX10_sell_X10_isTicket : GoodIn wsX10_sell wsX10_isTicket := goodIn_r _ [16, 17, 18, 24, 25, 26, 27, 28, 29, 30, 31, 32, 33, 34, 35, 36, 37, 38, 47, 48, 49, 50, 51, 52] (by decide +kernel) (by decide +kernel)
set_option maxRecDepth 20000 in
theorem gX10_sell_X10_isTicket : GoodIn wsX10_sell (wsV RX10 181 RX10 yX10_isTicket wsX10_isTicket) := goodIn_app (goodIn_of _ (by decide +kernel)) ggX10_sell_X10_isTicket
set_option maxRecDepth 20000 in
theorem ggX10_sell_X10_isPerson : GoodIn wsX10_sell wsX10_isPerson := goodIn_r _ [22, 17, 23, 24, 25, 26, 27, 28, 29, 30, 31, 32, 33, 34, 35, 36, 37, 38, 47, 48, 49, 50, 51, 52] (by decide +kernel) (by decide +kernel)
set_option maxRecDepth 20000 in
theorem gX10_sell_X10_isPerson : GoodIn wsX10_sell (wsV RX10 163 RX10 yX10_isPerson wsX10_isPerson) := goodIn_app (goodIn_of _ (by decide +kernel)) ggX10_sell_X10_isPerson
theorem dX10_sell_0 : decode cX10_sell 0 = .ok (.aload_n 0, 1) := by decide +kernel
theorem dX10_sell_1 : decode cX10_sell 1 = .ok (.iload_n 1, 1) := by decide +kernel
theorem dX10_sell_2 : decode cX10_sell 2 = .ok (.invokevirtual 181, 3) := by decide +kernel
theorem dX10_sell_5 : decode cX10_sell 5 = .ok (.ifCond .eq 11, 3) := by decide +kernel
theorem dX10_sell_8 : decode cX10_sell 8 = .ok (.aload_n 0, 1) := by decide +kernel
theorem dX10_sell_9 : decode cX10_sell 9 = .ok (.iload_n 2, 1) := by decide +kernel
theorem dX10_sell_10 : decode cX10_sell 10 = .ok (.invokevirtual 163, 3) := by decide +kernel
theorem dX10_sell_13 : decode cX10_sell 13 = .ok (.ifCond .ne 6, 3) := by decide +kernel
theorem dX10_sell_16 : decode cX10_sell 16 = .ok (.ldc 167, 2) := by decide +kernel
theorem dX10_sell_18 : decode cX10_sell 18 = .ok (.ireturn, 1) := by decide +kernel
theorem dX10_sell_19 : decode cX10_sell 19 = .ok (.aload_n 0, 1) := by decide +kernel
theorem dX10_sell_20 : decode cX10_sell 20 = .ok (.getfield 30, 3) := by decide +kernel
theorem dX10_sell_23 : decode cX10_sell 23 = .ok (.getfield 184, 3) := by decide +kernel
theorem dX10_sell_26 : decode cX10_sell 26 = .ok (.iload_n 1, 1) := by decide +kernel
theorem dX10_sell_27 : decode cX10_sell 27 = .ok (.iaload, 1) := by decide +kernel
theorem dX10_sell_28 : decode cX10_sell 28 = .ok (.istore_n 3, 1) := by decide +kernel
theorem dX10_sell_29 : decode cX10_sell 29 = .ok (.aload_n 0, 1) := by decide +kernel
theorem dX10_sell_30 : decode cX10_sell 30 = .ok (.getfield 30, 3) := by decide +kernel
theorem dX10_sell_33 : decode cX10_sell 33 = .ok (.getfield 190, 3) := by decide +kernel
theorem dX10_sell_36 : decode cX10_sell 36 = .ok (.iload_n 1, 1) := by decide +kernel
theorem dX10_sell_37 : decode cX10_sell 37 = .ok (.iaload, 1) := by decide +kernel
theorem dX10_sell_38 : decode cX10_sell 38 = .ok (.istore 4, 2) := by decide +kernel
theorem dX10_sell_40 : decode cX10_sell 40 = .ok (.iload_n 3, 1) := by decide +kernel
theorem dX10_sell_41 : decode cX10_sell 41 = .ok (.iload_n 2, 1) := by decide +kernel
theorem dX10_sell_42 : decode cX10_sell 42 = .ok (.if_icmp .eq 30, 3) := by decide +kernel
theorem dX10_sell_45 : decode cX10_sell 45 = .ok (.aload_n 0, 1) := by decide +kernel
theorem dX10_sell_46 : decode cX10_sell 46 = .ok (.getfield 30, 3) := by decide +kernel
theorem dX10_sell_49 : decode cX10_sell 49 = .ok (.getfield 193, 3) := by decide +kernel
theorem dX10_sell_52 : decode cX10_sell 52 = .ok (.iload_n 1, 1) := by decide +kernel
theorem dX10_sell_53 : decode cX10_sell 53 = .ok (.iaload, 1) := by decide +kernel
theorem dX10_sell_54 : decode cX10_sell 54 = .ok (.iconst (-1), 1) := by decide +kernel
theorem dX10_sell_55 : decode cX10_sell 55 = .ok (.if_icmp .ne 17, 3) := by decide +kernel
theorem dX10_sell_58 : decode cX10_sell 58 = .ok (.aload_n 0, 1) := by decide +kernel
theorem dX10_sell_59 : decode cX10_sell 59 = .ok (.getfield 30, 3) := by decide +kernel
theorem dX10_sell_62 : decode cX10_sell 62 = .ok (.getfield 168, 3) := by decide +kernel
theorem dX10_sell_65 : decode cX10_sell 65 = .ok (.iload_n 2, 1) := by decide +kernel
theorem dX10_sell_66 : decode cX10_sell 66 = .ok (.iaload, 1) := by decide +kernel
theorem dX10_sell_67 : decode cX10_sell 67 = .ok (.iload 4, 2) := by decide +kernel
theorem dX10_sell_69 : decode cX10_sell 69 = .ok (.if_icmp .ge 6, 3) := by decide +kernel
theorem dX10_sell_72 : decode cX10_sell 72 = .ok (.ldc 206, 2) := by decide +kernel
theorem dX10_sell_74 : decode cX10_sell 74 = .ok (.ireturn, 1) := by decide +kernel
theorem dX10_sell_75 : decode cX10_sell 75 = .ok (.aload_n 0, 1) := by decide +kernel
theorem dX10_sell_76 : decode cX10_sell 76 = .ok (.getfield 30, 3) := by decide +kernel
theorem dX10_sell_79 : decode cX10_sell 79 = .ok (.getfield 168, 3) := by decide +kernel
theorem dX10_sell_82 : decode cX10_sell 82 = .ok (.iload_n 2, 1) := by decide +kernel
theorem dX10_sell_83 : decode cX10_sell 83 = .ok (.dup2, 1) := by decide +kernel
theorem dX10_sell_84 : decode cX10_sell 84 = .ok (.iaload, 1) := by decide +kernel
theorem dX10_sell_85 : decode cX10_sell 85 = .ok (.iload 4, 2) := by decide +kernel
theorem dX10_sell_87 : decode cX10_sell 87 = .ok (.isub, 1) := by decide +kernel
theorem dX10_sell_88 : decode cX10_sell 88 = .ok (.iastore, 1) := by decide +kernel
theorem dX10_sell_89 : decode cX10_sell 89 = .ok (.aload_n 0, 1) := by decide +kernel
theorem dX10_sell_90 : decode cX10_sell 90 = .ok (.iload_n 3, 1) := by decide +kernel
theorem dX10_sell_91 : decode cX10_sell 91 = .ok (.invokevirtual 163, 3) := by decide +kernel
theorem dX10_sell_94 : decode cX10_sell 94 = .ok (.ifCond .eq 30, 3) := by decide +kernel
theorem dX10_sell_97 : decode cX10_sell 97 = .ok (.aload_n 0, 1) := by decide +kernel
theorem dX10_sell_98 : decode cX10_sell 98 = .ok (.getfield 30, 3) := by decide +kernel
theorem dX10_sell_101 : decode cX10_sell 101 = .ok (.getfield 168, 3) := by decide +kernel
theorem dX10_sell_104 : decode cX10_sell 104 = .ok (.iload_n 3, 1) := by decide +kernel
theorem dX10_sell_105 : decode cX10_sell 105 = .ok (.sipush 9999, 3) := by decide +kernel
theorem dX10_sell_108 : decode cX10_sell 108 = .ok (.aload_n 0, 1) := by decide +kernel
theorem dX10_sell_109 : decode cX10_sell 109 = .ok (.getfield 30, 3) := by decide +kernel
theorem dX10_sell_112 : decode cX10_sell 112 = .ok (.getfield 168, 3) := by decide +kernel
theorem dX10_sell_115 : decode cX10_sell 115 = .ok (.iload_n 3, 1) := by decide +kernel
theorem dX10_sell_116 : decode cX10_sell 116 = .ok (.iaload, 1) := by decide +kernel
theorem dX10_sell_117 : decode cX10_sell 117 = .ok (.iload 4, 2) := by decide +kernel
theorem dX10_sell_119 : decode cX10_sell 119 = .ok (.iadd, 1) := by decide +kernel
theorem dX10_sell_120 : decode cX10_sell 120 = .ok (.invokestatic 220, 3) := by decide +kernel
theorem dX10_sell_123 : decode cX10_sell 123 = .ok (.iastore, 1) := by decide +kernel
theorem dX10_sell_124 : decode cX10_sell 124 = .ok (.aload_n 0, 1) := by decide +kernel
theorem dX10_sell_125 : decode cX10_sell 125 = .ok (.getfield 30, 3) := by decide +kernel
theorem dX10_sell_128 : decode cX10_sell 128 = .ok (.getfield 184, 3) := by decide +kernel
theorem dX10_sell_131 : decode cX10_sell 131 = .ok (.iload_n 1, 1) := by decide +kernel
theorem dX10_sell_132 : decode cX10_sell 132 = .ok (.iload_n 2, 1) := by decide +kernel
theorem dX10_sell_133 : decode cX10_sell 133 = .ok (.iastore, 1) := by decide +kernel
theorem dX10_sell_134 : decode cX10_sell 134 = .ok (.aload_n 0, 1) := by decide +kernel
theorem dX10_sell_135 : decode cX10_sell 135 = .ok (.getfield 30, 3) := by decide +kernel
theorem dX10_sell_138 : decode cX10_sell 138 = .ok (.getfield 168, 3) := by decide +kernel
theorem dX10_sell_141 : decode cX10_sell 141 = .ok (.iload_n 2, 1) := by decide +kernel
theorem dX10_sell_142 : decode cX10_sell 142 = .ok (.iaload, 1) := by decide +kernel
theorem dX10_sell_143 : decode cX10_sell 143 = .ok (.ireturn, 1) := by decide +kernel
set_option maxRecDepth 20000 in
theorem ggX10_pawn_X10_isTicket : GoodIn wsX10_pawn wsX10_isTicket := goodIn_r _ [8, 9, 10, 20, 21, 22, 23, 24, 25, 26, 27, 28, 29, 30, 31, 32, 33, 34, 43, 44, 45, 46, 47, 48] (by decide +kernel) (by decide +kernel)
set_option maxRecDepth 20000 in
theorem gX10_pawn_X10_isTicket : GoodIn wsX10_pawn (wsV RX10 181 RX10 yX10_isTicket wsX10_isTicket) := goodIn_app (goodIn_of _ (by decide +kernel)) ggX10_pawn_X10_isTicket
set_option maxRecDepth 20000 in
theorem ggX10_pawn_X10_isPersonOrNone : GoodIn wsX10_pawn wsX10_isPersonOrNone := goodIn_r _ [14, 15, 16, 17, 7, 18, 9, 19, 20, 21, 22, 23, 24, 25, 26, 27, 28, 29, 30, 31, 32, 33, 34, 43, 44, 45, 46, 47, 48] (by decide +kernel) (by decide +kernel)
set_option maxRecDepth 20000 in
theorem gX10_pawn_X10_isPersonOrNone : GoodIn wsX10_pawn (wsV RX10 225 RX10 yX10_isPersonOrNone wsX10_isPersonOrNone) := goodIn_app (goodIn_of _ (by decide +kernel)) ggX10_pawn_X10_isPersonOrNone
theorem dX10_pawn_0 : decode cX10_pawn 0 = .ok (.aload_n 0, 1) := by decide +kernel
theorem dX10_pawn_1 : decode cX10_pawn 1 = .ok (.iload_n 1, 1) := by decide +kernel
theorem dX10_pawn_2 : decode cX10_pawn 2 = .ok (.invokevirtual 181, 3) := by decide +kernel
theorem dX10_pawn_5 : decode cX10_pawn 5 = .ok (.ifCond .eq 11, 3) := by decide +kernel
theorem dX10_pawn_8 : decode cX10_pawn 8 = .ok (.aload_n 0, 1) := by decide +kernel
theorem dX10_pawn_9 : decode cX10_pawn 9 = .ok (.iload_n 2, 1) := by decide +kernel
theorem dX10_pawn_10 : decode cX10_pawn 10 = .ok (.invokevirtual 225, 3) := by decide +kernel
theorem dX10_pawn_13 : decode cX10_pawn 13 = .ok (.ifCond .ne 6, 3) := by decide +kernel
theorem dX10_pawn_16 : decode cX10_pawn 16 = .ok (.ldc 167, 2) := by decide +kernel
theorem dX10_pawn_18 : decode cX10_pawn 18 = .ok (.ireturn, 1) := by decide +kernel
theorem dX10_pawn_19 : decode cX10_pawn 19 = .ok (.aload_n 0, 1) := by decide +kernel
theorem dX10_pawn_20 : decode cX10_pawn 20 = .ok (.getfield 30, 3) := by decide +kernel
theorem dX10_pawn_23 : decode cX10_pawn 23 = .ok (.getfield 193, 3) := by decide +kernel
theorem dX10_pawn_26 : decode cX10_pawn 26 = .ok (.iload_n 1, 1) := by decide +kernel
theorem dX10_pawn_27 : decode cX10_pawn 27 = .ok (.iaload, 1) := by decide +kernel
theorem dX10_pawn_28 : decode cX10_pawn 28 = .ok (.istore_n 3, 1) := by decide +kernel
theorem dX10_pawn_29 : decode cX10_pawn 29 = .ok (.aload_n 0, 1) := by decide +kernel
theorem dX10_pawn_30 : decode cX10_pawn 30 = .ok (.getfield 30, 3) := by decide +kernel
theorem dX10_pawn_33 : decode cX10_pawn 33 = .ok (.getfield 193, 3) := by decide +kernel
theorem dX10_pawn_36 : decode cX10_pawn 36 = .ok (.iload_n 1, 1) := by decide +kernel
theorem dX10_pawn_37 : decode cX10_pawn 37 = .ok (.iload_n 2, 1) := by decide +kernel
theorem dX10_pawn_38 : decode cX10_pawn 38 = .ok (.iastore, 1) := by decide +kernel
theorem dX10_pawn_39 : decode cX10_pawn 39 = .ok (.iload_n 3, 1) := by decide +kernel
theorem dX10_pawn_40 : decode cX10_pawn 40 = .ok (.ireturn, 1) := by decide +kernel
set_option maxRecDepth 20000 in
theorem ggX10_price_X10_isTicket : GoodIn wsX10_price wsX10_isTicket := goodIn_r _ [9, 10, 11, 12, 13, 14, 15, 16, 17, 18, 19, 20, 21, 22, 23, 24, 25, 26, 35, 36, 37, 38, 39, 40] (by decide +kernel) (by decide +kernel)
set_option maxRecDepth 20000 in
theorem gX10_price_X10_isTicket : GoodIn wsX10_price (wsV RX10 181 RX10 yX10_isTicket wsX10_isTicket) := goodIn_app (goodIn_of _ (by decide +kernel)) ggX10_price_X10_isTicket
theorem dX10_price_0 : decode cX10_price 0 = .ok (.aload_n 0, 1) := by decide +kernel
theorem dX10_price_1 : decode cX10_price 1 = .ok (.iload_n 1, 1) := by decide +kernel
theorem dX10_price_2 : decode cX10_price 2 = .ok (.invokevirtual 181, 3) := by decide +kernel
theorem dX10_price_5 : decode cX10_price 5 = .ok (.ifCond .ne 6, 3) := by decide +kernel
theorem dX10_price_8 : decode cX10_price 8 = .ok (.ldc 167, 2) := by decide +kernel
theorem dX10_price_10 : decode cX10_price 10 = .ok (.ireturn, 1) := by decide +kernel
theorem dX10_price_11 : decode cX10_price 11 = .ok (.iload_n 2, 1) := by decide +kernel
theorem dX10_price_12 : decode cX10_price 12 = .ok (.ifCond .lt 9, 3) := by decide +kernel
theorem dX10_price_15 : decode cX10_price 15 = .ok (.iload_n 2, 1) := by decide +kernel
theorem dX10_price_16 : decode cX10_price 16 = .ok (.bipush 99, 2) := by decide +kernel
theorem dX10_price_18 : decode cX10_price 18 = .ok (.if_icmp .le 6, 3) := by decide +kernel
theorem dX10_price_21 : decode cX10_price 21 = .ok (.ldc 96, 2) := by decide +kernel
theorem dX10_price_23 : decode cX10_price 23 = .ok (.ireturn, 1) := by decide +kernel
theorem dX10_price_24 : decode cX10_price 24 = .ok (.aload_n 0, 1) := by decide +kernel
theorem dX10_price_25 : decode cX10_price 25 = .ok (.getfield 30, 3) := by decide +kernel
theorem dX10_price_28 : decode cX10_price 28 = .ok (.getfield 190, 3) := by decide +kernel
theorem dX10_price_31 : decode cX10_price 31 = .ok (.iload_n 1, 1) := by decide +kernel
theorem dX10_price_32 : decode cX10_price 32 = .ok (.iaload, 1) := by decide +kernel
theorem dX10_price_33 : decode cX10_price 33 = .ok (.istore_n 3, 1) := by decide +kernel
theorem dX10_price_34 : decode cX10_price 34 = .ok (.aload_n 0, 1) := by decide +kernel
theorem dX10_price_35 : decode cX10_price 35 = .ok (.getfield 30, 3) := by decide +kernel
theorem dX10_price_38 : decode cX10_price 38 = .ok (.getfield 190, 3) := by decide +kernel
theorem dX10_price_41 : decode cX10_price 41 = .ok (.iload_n 1, 1) := by decide +kernel
theorem dX10_price_42 : decode cX10_price 42 = .ok (.iload_n 2, 1) := by decide +kernel
theorem dX10_price_43 : decode cX10_price 43 = .ok (.iastore, 1) := by decide +kernel
theorem dX10_price_44 : decode cX10_price 44 = .ok (.iload_n 3, 1) := by decide +kernel
theorem dX10_price_45 : decode cX10_price 45 = .ok (.ireturn, 1) := by decide +kernel
set_option maxRecDepth 20000 in
theorem ggX10_undo_X5_takeBack : GoodIn wsX10_undo wsX5_takeBack := goodIn_r _ [11, 12, 13, 14, 15, 16, 17, 18, 19, 20, 21, 22, 23, 24, 25, 26, 27, 28, 29, 30, 31, 47, 48, 49, 50, 51, 52, 53, 54, 55, 56, 57] (by decide +kernel) (by decide +kernel)
set_option maxRecDepth 20000 in
theorem gX10_undo_X5_takeBack : GoodIn wsX10_undo (wsV RX10 228 RX5 yX5_takeBack wsX5_takeBack) := goodIn_app (goodIn_of _ (by decide +kernel)) ggX10_undo_X5_takeBack
theorem dX10_undo_0 : decode cX10_undo 0 = .ok (.iload_n 1, 1) := by decide +kernel
theorem dX10_undo_1 : decode cX10_undo 1 = .ok (.iconst 1, 1) := by decide +kernel
theorem dX10_undo_2 : decode cX10_undo 2 = .ok (.if_icmp .lt 9, 3) := by decide +kernel
theorem dX10_undo_5 : decode cX10_undo 5 = .ok (.iload_n 1, 1) := by decide +kernel
theorem dX10_undo_6 : decode cX10_undo 6 = .ok (.bipush 30, 2) := by decide +kernel
theorem dX10_undo_8 : decode cX10_undo 8 = .ok (.if_icmp .le 6, 3) := by decide +kernel
theorem dX10_undo_11 : decode cX10_undo 11 = .ok (.ldc 96, 2) := by decide +kernel
theorem dX10_undo_13 : decode cX10_undo 13 = .ok (.ireturn, 1) := by decide +kernel
theorem dX10_undo_14 : decode cX10_undo 14 = .ok (.iload_n 1, 1) := by decide +kernel
theorem dX10_undo_15 : decode cX10_undo 15 = .ok (.aload_n 0, 1) := by decide +kernel
theorem dX10_undo_16 : decode cX10_undo 16 = .ok (.getfield 37, 3) := by decide +kernel
theorem dX10_undo_19 : decode cX10_undo 19 = .ok (.getfield 160, 3) := by decide +kernel
theorem dX10_undo_22 : decode cX10_undo 22 = .ok (.if_icmp .le 6, 3) := by decide +kernel
theorem dX10_undo_25 : decode cX10_undo 25 = .ok (.ldc 206, 2) := by decide +kernel
theorem dX10_undo_27 : decode cX10_undo 27 = .ok (.ireturn, 1) := by decide +kernel
theorem dX10_undo_28 : decode cX10_undo 28 = .ok (.aload_n 0, 1) := by decide +kernel
theorem dX10_undo_29 : decode cX10_undo 29 = .ok (.getfield 37, 3) := by decide +kernel
theorem dX10_undo_32 : decode cX10_undo 32 = .ok (.iload_n 1, 1) := by decide +kernel
theorem dX10_undo_33 : decode cX10_undo 33 = .ok (.aload_n 0, 1) := by decide +kernel
theorem dX10_undo_34 : decode cX10_undo 34 = .ok (.getfield 30, 3) := by decide +kernel
theorem dX10_undo_37 : decode cX10_undo 37 = .ok (.invokevirtual 228, 3) := by decide +kernel
theorem dX10_undo_40 : decode cX10_undo 40 = .ok (.aload_n 0, 1) := by decide +kernel
theorem dX10_undo_41 : decode cX10_undo 41 = .ok (.getfield 30, 3) := by decide +kernel
theorem dX10_undo_44 : decode cX10_undo 44 = .ok (.getfield 127, 3) := by decide +kernel
theorem dX10_undo_47 : decode cX10_undo 47 = .ok (.ireturn, 1) := by decide +kernel
set_option maxRecDepth 20000 in
theorem ggX10_odds_X10_isPerson : GoodIn wsX10_odds wsX10_isPerson := goodIn_r _ [14, 4, 15, 89, 90, 91, 92, 93, 94, 95, 96, 97, 98, 99, 100, 101, 102, 103, 112, 113, 114, 115, 116, 117] (by decide +kernel) (by decide +kernel)
set_option maxRecDepth 20000 in
theorem gX10_odds_X10_isPerson : GoodIn wsX10_odds (wsV RX10 163 RX10 yX10_isPerson wsX10_isPerson) := goodIn_app (goodIn_of _ (by decide +kernel)) ggX10_odds_X10_isPerson
set_option maxRecDepth 20000 in
theorem ggX10_odds_X2_begin : GoodIn wsX10_odds wsX2_begin := goodIn_r _ [20, 21, 22, 23, 24, 25, 26, 27, 28, 29, 30, 31, 32, 33, 34, 35, 36, 37, 19, 38, 39, 40, 41, 42, 43, 44, 45, 46, 47, 48, 49, 50, 51, 52, 53, 54, 55, 56, 57, 58, 59, 60, 13, 61, 118, 119, 120, 121, 122, 123, 112, 113, 114, 115, 116, 117] (by decide +kernel) (by decide +kernel)
set_option maxRecDepth 20000 in
theorem gX10_odds_X2_begin : GoodIn wsX10_odds (wsV RX10 232 RX2 yX2_begin wsX2_begin) := goodIn_app (goodIn_of _ (by decide +kernel)) ggX10_odds_X2_begin
set_option maxRecDepth 20000 in
theorem ggX10_odds_X4_agingFor : GoodIn wsX10_odds wsX4_agingFor := goodIn_r _ [66, 67, 68, 69, 65, 70, 71, 72, 104, 105, 106, 107, 108, 109, 110, 111] (by decide +kernel) (by decide +kernel)
set_option maxRecDepth 20000 in
theorem gX10_odds_X4_agingFor : GoodIn wsX10_odds (wsV RX10 178 RX4 yX4_agingFor wsX4_agingFor) := goodIn_app (goodIn_of _ (by decide +kernel)) ggX10_odds_X4_agingFor
set_option maxRecDepth 20000 in
theorem ggX10_odds_X2_atLeast : GoodIn wsX10_odds wsX2_atLeast := goodIn_r _ [76, 22, 77, 78, 79, 19, 80, 81, 41, 21, 27, 82, 83, 25, 84, 43, 44, 45, 46, 53, 54, 55, 56, 57, 58, 59, 60, 13, 61, 85, 86, 87, 88, 40, 42, 39, 28, 29, 30, 31, 32, 33, 34, 112, 113, 114, 115, 116, 117, 118, 119, 120, 121, 122, 123] (by decide +kernel) (by decide +kernel)
set_option maxRecDepth 20000 in
theorem gX10_odds_X2_atLeast : GoodIn wsX10_odds (wsV RX10 236 RX2 yX2_atLeast wsX2_atLeast) := goodIn_app (goodIn_of _ (by decide +kernel)) ggX10_odds_X2_atLeast
theorem dX10_odds_0 : decode cX10_odds 0 = .ok (.aload_n 0, 1) := by decide +kernel
theorem dX10_odds_1 : decode cX10_odds 1 = .ok (.iload_n 1, 1) := by decide +kernel
theorem dX10_odds_2 : decode cX10_odds 2 = .ok (.invokevirtual 163, 3) := by decide +kernel
theorem dX10_odds_5 : decode cX10_odds 5 = .ok (.ifCond .ne 6, 3) := by decide +kernel
theorem dX10_odds_8 : decode cX10_odds 8 = .ok (.ldc 167, 2) := by decide +kernel
theorem dX10_odds_10 : decode cX10_odds 10 = .ok (.ireturn, 1) := by decide +kernel
theorem dX10_odds_11 : decode cX10_odds 11 = .ok (.iload_n 2, 1) := by decide +kernel
theorem dX10_odds_12 : decode cX10_odds 12 = .ok (.ifCond .lt 9, 3) := by decide +kernel
theorem dX10_odds_15 : decode cX10_odds 15 = .ok (.iload_n 2, 1) := by decide +kernel
theorem dX10_odds_16 : decode cX10_odds 16 = .ok (.bipush 8, 2) := by decide +kernel
theorem dX10_odds_18 : decode cX10_odds 18 = .ok (.if_icmp .le 6, 3) := by decide +kernel
theorem dX10_odds_21 : decode cX10_odds 21 = .ok (.ldc 96, 2) := by decide +kernel
theorem dX10_odds_23 : decode cX10_odds 23 = .ok (.ireturn, 1) := by decide +kernel
theorem dX10_odds_24 : decode cX10_odds 24 = .ok (.aload_n 0, 1) := by decide +kernel
theorem dX10_odds_25 : decode cX10_odds 25 = .ok (.getfield 51, 3) := by decide +kernel
theorem dX10_odds_28 : decode cX10_odds 28 = .ok (.aload_n 0, 1) := by decide +kernel
theorem dX10_odds_29 : decode cX10_odds 29 = .ok (.getfield 23, 3) := by decide +kernel
theorem dX10_odds_32 : decode cX10_odds 32 = .ok (.aload_n 0, 1) := by decide +kernel
theorem dX10_odds_33 : decode cX10_odds 33 = .ok (.getfield 30, 3) := by decide +kernel
theorem dX10_odds_36 : decode cX10_odds 36 = .ok (.getfield 140, 3) := by decide +kernel
theorem dX10_odds_39 : decode cX10_odds 39 = .ok (.aload_n 0, 1) := by decide +kernel
theorem dX10_odds_40 : decode cX10_odds 40 = .ok (.getfield 23, 3) := by decide +kernel
theorem dX10_odds_43 : decode cX10_odds 43 = .ok (.getfield 133, 3) := by decide +kernel
theorem dX10_odds_46 : decode cX10_odds 46 = .ok (.aload_n 0, 1) := by decide +kernel
theorem dX10_odds_47 : decode cX10_odds 47 = .ok (.getfield 30, 3) := by decide +kernel
theorem dX10_odds_50 : decode cX10_odds 50 = .ok (.getfield 130, 3) := by decide +kernel
theorem dX10_odds_53 : decode cX10_odds 53 = .ok (.isub, 1) := by decide +kernel
theorem dX10_odds_54 : decode cX10_odds 54 = .ok (.invokevirtual 232, 3) := by decide +kernel
theorem dX10_odds_57 : decode cX10_odds 57 = .ok (.aload_n 0, 1) := by decide +kernel
theorem dX10_odds_58 : decode cX10_odds 58 = .ok (.getfield 51, 3) := by decide +kernel
theorem dX10_odds_61 : decode cX10_odds 61 = .ok (.aload_n 0, 1) := by decide +kernel
theorem dX10_odds_62 : decode cX10_odds 62 = .ok (.getfield 23, 3) := by decide +kernel
theorem dX10_odds_65 : decode cX10_odds 65 = .ok (.aload_n 0, 1) := by decide +kernel
theorem dX10_odds_66 : decode cX10_odds 66 = .ok (.getfield 30, 3) := by decide +kernel
theorem dX10_odds_69 : decode cX10_odds 69 = .ok (.iload_n 1, 1) := by decide +kernel
theorem dX10_odds_70 : decode cX10_odds 70 = .ok (.aload_n 0, 1) := by decide +kernel
theorem dX10_odds_71 : decode cX10_odds 71 = .ok (.getfield 23, 3) := by decide +kernel
theorem dX10_odds_74 : decode cX10_odds 74 = .ok (.getfield 124, 3) := by decide +kernel
theorem dX10_odds_77 : decode cX10_odds 77 = .ok (.invokevirtual 178, 3) := by decide +kernel
theorem dX10_odds_80 : decode cX10_odds 80 = .ok (.iload_n 2, 1) := by decide +kernel
theorem dX10_odds_81 : decode cX10_odds 81 = .ok (.invokevirtual 236, 3) := by decide +kernel
theorem dX10_odds_84 : decode cX10_odds 84 = .ok (.l2i, 1) := by decide +kernel
theorem dX10_odds_85 : decode cX10_odds 85 = .ok (.ireturn, 1) := by decide +kernel
set_option maxRecDepth 20000 in
theorem ggX10_never_X10_isPerson : GoodIn wsX10_never wsX10_isPerson := goodIn_r _ [13, 4, 14, 92, 93, 94, 95, 96, 97, 98, 99, 100, 101, 102, 103, 104, 105, 106, 107, 108, 109, 110, 111, 112] (by decide +kernel) (by decide +kernel)
set_option maxRecDepth 20000 in
theorem gX10_never_X10_isPerson : GoodIn wsX10_never (wsV RX10 163 RX10 yX10_isPerson wsX10_isPerson) := goodIn_app (goodIn_of _ (by decide +kernel)) ggX10_never_X10_isPerson
set_option maxRecDepth 20000 in
theorem ggX10_never_X7_everyTicket : GoodIn wsX10_never wsX7_everyTicket := goodIn_r _ [19, 20, 107, 108, 109, 110, 111, 112] (by decide +kernel) (by decide +kernel)
set_option maxRecDepth 20000 in
theorem gX10_never_X7_everyTicket : GoodIn wsX10_never (wsV RX10 240 RX7 yX7_everyTicket wsX7_everyTicket) := goodIn_app (goodIn_of _ (by decide +kernel)) ggX10_never_X7_everyTicket
set_option maxRecDepth 20000 in
theorem ggX10_never_X2_begin : GoodIn wsX10_never wsX2_begin := goodIn_r _ [25, 26, 27, 28, 29, 30, 31, 32, 33, 34, 35, 36, 37, 38, 39, 40, 41, 42, 24, 43, 44, 45, 46, 47, 48, 49, 50, 51, 52, 53, 54, 55, 56, 57, 58, 59, 60, 18, 61, 20, 62, 63, 12, 64, 113, 114, 115, 116, 117, 118, 107, 108, 109, 110, 111, 112] (by decide +kernel) (by decide +kernel)
set_option maxRecDepth 20000 in
theorem gX10_never_X2_begin : GoodIn wsX10_never (wsV RX10 232 RX2 yX2_begin wsX2_begin) := goodIn_app (goodIn_of _ (by decide +kernel)) ggX10_never_X2_begin
set_option maxRecDepth 20000 in
theorem ggX10_never_X4_agingFor : GoodIn wsX10_never wsX4_agingFor := goodIn_r _ [69, 70, 71, 72, 68, 73, 74, 75, 119, 120, 121, 122, 123, 124, 125, 126] (by decide +kernel) (by decide +kernel)
set_option maxRecDepth 20000 in
theorem gX10_never_X4_agingFor : GoodIn wsX10_never (wsV RX10 178 RX4 yX4_agingFor wsX4_agingFor) := goodIn_app (goodIn_of _ (by decide +kernel)) ggX10_never_X4_agingFor
set_option maxRecDepth 20000 in
theorem ggX10_never_X2_atLeast : GoodIn wsX10_never wsX2_atLeast := goodIn_r _ [79, 27, 80, 81, 82, 24, 83, 84, 46, 26, 32, 85, 86, 30, 87, 48, 49, 50, 51, 58, 59, 60, 18, 61, 20, 62, 63, 12, 64, 88, 89, 90, 91, 45, 47, 44, 33, 34, 35, 36, 37, 38, 39, 107, 108, 109, 110, 111, 112, 113, 114, 115, 116, 117, 118] (by decide +kernel) (by decide +kernel)
set_option maxRecDepth 20000 in
theorem gX10_never_X2_atLeast : GoodIn wsX10_never (wsV RX10 236 RX2 yX2_atLeast wsX2_atLeast) := goodIn_app (goodIn_of _ (by decide +kernel)) ggX10_never_X2_atLeast
theorem dX10_never_0 : decode cX10_never 0 = .ok (.aload_n 0, 1) := by decide +kernel
theorem dX10_never_1 : decode cX10_never 1 = .ok (.iload_n 1, 1) := by decide +kernel
theorem dX10_never_2 : decode cX10_never 2 = .ok (.invokevirtual 163, 3) := by decide +kernel
theorem dX10_never_5 : decode cX10_never 5 = .ok (.ifCond .ne 6, 3) := by decide +kernel
theorem dX10_never_8 : decode cX10_never 8 = .ok (.ldc 167, 2) := by decide +kernel
theorem dX10_never_10 : decode cX10_never 10 = .ok (.ireturn, 1) := by decide +kernel
theorem dX10_never_11 : decode cX10_never 11 = .ok (.iload_n 2, 1) := by decide +kernel
theorem dX10_never_12 : decode cX10_never 12 = .ok (.iconst 1, 1) := by decide +kernel
theorem dX10_never_13 : decode cX10_never 13 = .ok (.if_icmp .lt 9, 3) := by decide +kernel
theorem dX10_never_16 : decode cX10_never 16 = .ok (.iload_n 2, 1) := by decide +kernel
theorem dX10_never_17 : decode cX10_never 17 = .ok (.bipush 99, 2) := by decide +kernel
theorem dX10_never_19 : decode cX10_never 19 = .ok (.if_icmp .le 6, 3) := by decide +kernel
theorem dX10_never_22 : decode cX10_never 22 = .ok (.ldc 96, 2) := by decide +kernel
theorem dX10_never_24 : decode cX10_never 24 = .ok (.ireturn, 1) := by decide +kernel
theorem dX10_never_25 : decode cX10_never 25 = .ok (.aload_n 0, 1) := by decide +kernel
theorem dX10_never_26 : decode cX10_never 26 = .ok (.getfield 51, 3) := by decide +kernel
theorem dX10_never_29 : decode cX10_never 29 = .ok (.aload_n 0, 1) := by decide +kernel
theorem dX10_never_30 : decode cX10_never 30 = .ok (.getfield 23, 3) := by decide +kernel
theorem dX10_never_33 : decode cX10_never 33 = .ok (.aload_n 0, 1) := by decide +kernel
theorem dX10_never_34 : decode cX10_never 34 = .ok (.getfield 23, 3) := by decide +kernel
theorem dX10_never_37 : decode cX10_never 37 = .ok (.invokevirtual 240, 3) := by decide +kernel
theorem dX10_never_40 : decode cX10_never 40 = .ok (.aload_n 0, 1) := by decide +kernel
theorem dX10_never_41 : decode cX10_never 41 = .ok (.getfield 23, 3) := by decide +kernel
theorem dX10_never_44 : decode cX10_never 44 = .ok (.getfield 133, 3) := by decide +kernel
theorem dX10_never_47 : decode cX10_never 47 = .ok (.invokevirtual 232, 3) := by decide +kernel
theorem dX10_never_50 : decode cX10_never 50 = .ok (.ldc2_w 244, 3) := by decide +kernel
theorem dX10_never_53 : decode cX10_never 53 = .ok (.aload_n 0, 1) := by decide +kernel
theorem dX10_never_54 : decode cX10_never 54 = .ok (.getfield 51, 3) := by decide +kernel
theorem dX10_never_57 : decode cX10_never 57 = .ok (.aload_n 0, 1) := by decide +kernel
theorem dX10_never_58 : decode cX10_never 58 = .ok (.getfield 23, 3) := by decide +kernel
theorem dX10_never_61 : decode cX10_never 61 = .ok (.aload_n 0, 1) := by decide +kernel
theorem dX10_never_62 : decode cX10_never 62 = .ok (.getfield 30, 3) := by decide +kernel
theorem dX10_never_65 : decode cX10_never 65 = .ok (.iload_n 1, 1) := by decide +kernel
theorem dX10_never_66 : decode cX10_never 66 = .ok (.aload_n 0, 1) := by decide +kernel
theorem dX10_never_67 : decode cX10_never 67 = .ok (.getfield 23, 3) := by decide +kernel
theorem dX10_never_70 : decode cX10_never 70 = .ok (.getfield 124, 3) := by decide +kernel
theorem dX10_never_73 : decode cX10_never 73 = .ok (.invokevirtual 178, 3) := by decide +kernel
theorem dX10_never_76 : decode cX10_never 76 = .ok (.iconst 1, 1) := by decide +kernel
theorem dX10_never_77 : decode cX10_never 77 = .ok (.invokevirtual 236, 3) := by decide +kernel
theorem dX10_never_80 : decode cX10_never 80 = .ok (.lsub, 1) := by decide +kernel
theorem dX10_never_81 : decode cX10_never 81 = .ok (.lstore_n 3, 1) := by decide +kernel
theorem dX10_never_82 : decode cX10_never 82 = .ok (.ldc2_w 244, 3) := by decide +kernel
theorem dX10_never_85 : decode cX10_never 85 = .ok (.lstore 5, 2) := by decide +kernel
theorem dX10_never_87 : decode cX10_never 87 = .ok (.iconst 0, 1) := by decide +kernel
theorem dX10_never_88 : decode cX10_never 88 = .ok (.istore 7, 2) := by decide +kernel
theorem dX10_never_90 : decode cX10_never 90 = .ok (.iload 7, 2) := by decide +kernel
theorem dX10_never_92 : decode cX10_never 92 = .ok (.iload_n 2, 1) := by decide +kernel
theorem dX10_never_93 : decode cX10_never 93 = .ok (.if_icmp .ge 19, 3) := by decide +kernel
theorem dX10_never_96 : decode cX10_never 96 = .ok (.lload 5, 2) := by decide +kernel
theorem dX10_never_98 : decode cX10_never 98 = .ok (.lload_n 3, 1) := by decide +kernel
theorem dX10_never_99 : decode cX10_never 99 = .ok (.lmul, 1) := by decide +kernel
theorem dX10_never_100 : decode cX10_never 100 = .ok (.ldc2_w 244, 3) := by decide +kernel
theorem dX10_never_103 : decode cX10_never 103 = .ok (.ldiv, 1) := by decide +kernel
theorem dX10_never_104 : decode cX10_never 104 = .ok (.lstore 5, 2) := by decide +kernel
theorem dX10_never_106 : decode cX10_never 106 = .ok (.iinc 7 1, 3) := by decide +kernel
theorem dX10_never_109 : decode cX10_never 109 = .ok (.goto (-19), 3) := by decide +kernel
theorem dX10_never_112 : decode cX10_never 112 = .ok (.lload 5, 2) := by decide +kernel
theorem dX10_never_114 : decode cX10_never 114 = .ok (.l2i, 1) := by decide +kernel
theorem dX10_never_115 : decode cX10_never 115 = .ok (.ireturn, 1) := by decide +kernel
set_option maxRecDepth 20000 in
theorem ggX10_buy_X10_isPerson : GoodIn wsX10_buy wsX10_isPerson := goodIn_r _ [12, 3, 13, 110, 111, 112, 113, 114, 115, 116, 117, 118, 119, 120, 121, 122, 123, 124, 125, 126, 127, 128, 129, 130] (by decide +kernel) (by decide +kernel)
set_option maxRecDepth 20000 in
theorem gX10_buy_X10_isPerson : GoodIn wsX10_buy (wsV RX10 163 RX10 yX10_isPerson wsX10_isPerson) := goodIn_app (goodIn_of _ (by decide +kernel)) ggX10_buy_X10_isPerson
set_option maxRecDepth 20000 in
theorem ggX10_buy_X10_isRight : GoodIn wsX10_buy wsX10_isRight := goodIn_r _ [16] (by decide +kernel) (by decide +kernel)
set_option maxRecDepth 20000 in
theorem gX10_buy_X10_isRight : GoodIn wsX10_buy (va_wsS RX10 196 yX10_isRight wsX10_isRight) := goodIn_app (goodIn_of _ (by decide +kernel)) ggX10_buy_X10_isRight
set_option maxRecDepth 20000 in
theorem ggX10_buy_X10_cheapest : GoodIn wsX10_buy wsX10_cheapest := goodIn_r _ [20, 21, 3, 5, 22, 23, 24, 25, 26, 27, 28, 29, 30, 31, 32, 33, 34, 35, 36, 37, 38, 39, 40, 41, 42, 43, 44, 45, 46, 47, 48, 49, 50, 51, 52, 53, 54, 55, 56, 57, 58, 59, 60, 61, 62, 63, 64, 65, 66, 67, 68, 69, 70, 71, 11, 72, 73, 74, 75, 76, 77, 78, 79, 80, 81, 82, 83, 84, 85, 86, 87, 88, 89, 90, 91, 92, 93, 94, 95, 96, 97, 98, 99, 100, 101, 102, 103, 104, 105, 106, 107, 108, 109, 110, 111, 112, 113, 114, 115, 116, 117, 118, 119, 120, 121, 122, 123, 124, 131, 132, 133, 134, 135, 136, 137, 138, 125, 126, 127, 128, 129, 130, 139, 140, 141, 142, 143, 144] (by decide +kernel) (by decide +kernel)
set_option maxRecDepth 20000 in
theorem gX10_buy_X10_cheapest : GoodIn wsX10_buy (wsV RX10 248 RX10 yX10_cheapest wsX10_cheapest) := goodIn_app (goodIn_of _ (by decide +kernel)) ggX10_buy_X10_cheapest
set_option maxRecDepth 20000 in
theorem ggX10_buy_X4_priceOf : GoodIn wsX10_buy wsX4_priceOf := goodIn_r _ [91, 92, 71, 11, 72, 131, 132, 133, 134, 135, 136, 137, 138] (by decide +kernel) (by decide +kernel)
set_option maxRecDepth 20000 in
theorem gX10_buy_X4_priceOf : GoodIn wsX10_buy (wsV RX10 252 RX4 yX4_priceOf wsX4_priceOf) := goodIn_app (goodIn_of _ (by decide +kernel)) ggX10_buy_X4_priceOf
theorem dX10_buy_0 : decode cX10_buy 0 = .ok (.aload_n 0, 1) := by decide +kernel
theorem dX10_buy_1 : decode cX10_buy 1 = .ok (.iload_n 1, 1) := by decide +kernel
theorem dX10_buy_2 : decode cX10_buy 2 = .ok (.invokevirtual 163, 3) := by decide +kernel
theorem dX10_buy_5 : decode cX10_buy 5 = .ok (.ifCond .ne 6, 3) := by decide +kernel
theorem dX10_buy_8 : decode cX10_buy 8 = .ok (.ldc 167, 2) := by decide +kernel
theorem dX10_buy_10 : decode cX10_buy 10 = .ok (.ireturn, 1) := by decide +kernel
theorem dX10_buy_11 : decode cX10_buy 11 = .ok (.iload_n 2, 1) := by decide +kernel
theorem dX10_buy_12 : decode cX10_buy 12 = .ok (.invokestatic 196, 3) := by decide +kernel
theorem dX10_buy_15 : decode cX10_buy 15 = .ok (.ifCond .eq 24, 3) := by decide +kernel
theorem dX10_buy_18 : decode cX10_buy 18 = .ok (.iload_n 3, 1) := by decide +kernel
theorem dX10_buy_19 : decode cX10_buy 19 = .ok (.ifCond .lt 20, 3) := by decide +kernel
theorem dX10_buy_22 : decode cX10_buy 22 = .ok (.iload_n 3, 1) := by decide +kernel
theorem dX10_buy_23 : decode cX10_buy 23 = .ok (.bipush 100, 2) := by decide +kernel
theorem dX10_buy_25 : decode cX10_buy 25 = .ok (.if_icmp .gt 14, 3) := by decide +kernel
theorem dX10_buy_28 : decode cX10_buy 28 = .ok (.iload 4, 2) := by decide +kernel
theorem dX10_buy_30 : decode cX10_buy 30 = .ok (.ifCond .lt 9, 3) := by decide +kernel
theorem dX10_buy_33 : decode cX10_buy 33 = .ok (.iload 4, 2) := by decide +kernel
theorem dX10_buy_35 : decode cX10_buy 35 = .ok (.iconst 1, 1) := by decide +kernel
theorem dX10_buy_36 : decode cX10_buy 36 = .ok (.if_icmp .le 6, 3) := by decide +kernel
theorem dX10_buy_39 : decode cX10_buy 39 = .ok (.ldc 96, 2) := by decide +kernel
theorem dX10_buy_41 : decode cX10_buy 41 = .ok (.ireturn, 1) := by decide +kernel
theorem dX10_buy_42 : decode cX10_buy 42 = .ok (.aload_n 0, 1) := by decide +kernel
theorem dX10_buy_43 : decode cX10_buy 43 = .ok (.iload_n 1, 1) := by decide +kernel
theorem dX10_buy_44 : decode cX10_buy 44 = .ok (.aload_n 0, 1) := by decide +kernel
theorem dX10_buy_45 : decode cX10_buy 45 = .ok (.getfield 23, 3) := by decide +kernel
theorem dX10_buy_48 : decode cX10_buy 48 = .ok (.getfield 199, 3) := by decide +kernel
theorem dX10_buy_51 : decode cX10_buy 51 = .ok (.iload_n 2, 1) := by decide +kernel
theorem dX10_buy_52 : decode cX10_buy 52 = .ok (.iaload, 1) := by decide +kernel
theorem dX10_buy_53 : decode cX10_buy 53 = .ok (.aload_n 0, 1) := by decide +kernel
theorem dX10_buy_54 : decode cX10_buy 54 = .ok (.getfield 30, 3) := by decide +kernel
theorem dX10_buy_57 : decode cX10_buy 57 = .ok (.getfield 147, 3) := by decide +kernel
theorem dX10_buy_60 : decode cX10_buy 60 = .ok (.iload_n 1, 1) := by decide +kernel
theorem dX10_buy_61 : decode cX10_buy 61 = .ok (.iaload, 1) := by decide +kernel
theorem dX10_buy_62 : decode cX10_buy 62 = .ok (.isub, 1) := by decide +kernel
theorem dX10_buy_63 : decode cX10_buy 63 = .ok (.ldc2_w 246, 3) := by decide +kernel
theorem dX10_buy_66 : decode cX10_buy 66 = .ok (.iload_n 3, 1) := by decide +kernel
theorem dX10_buy_67 : decode cX10_buy 67 = .ok (.i2l, 1) := by decide +kernel
theorem dX10_buy_68 : decode cX10_buy 68 = .ok (.lmul, 1) := by decide +kernel
theorem dX10_buy_69 : decode cX10_buy 69 = .ok (.invokevirtual 248, 3) := by decide +kernel
theorem dX10_buy_72 : decode cX10_buy 72 = .ok (.istore 5, 2) := by decide +kernel
theorem dX10_buy_74 : decode cX10_buy 74 = .ok (.iload 5, 2) := by decide +kernel
theorem dX10_buy_76 : decode cX10_buy 76 = .ok (.iconst (-1), 1) := by decide +kernel
theorem dX10_buy_77 : decode cX10_buy 77 = .ok (.if_icmp .eq 9, 3) := by decide +kernel
theorem dX10_buy_80 : decode cX10_buy 80 = .ok (.iload 4, 2) := by decide +kernel
theorem dX10_buy_82 : decode cX10_buy 82 = .ok (.iconst 1, 1) := by decide +kernel
theorem dX10_buy_83 : decode cX10_buy 83 = .ok (.if_icmp .ne 6, 3) := by decide +kernel
theorem dX10_buy_86 : decode cX10_buy 86 = .ok (.iload 5, 2) := by decide +kernel
theorem dX10_buy_88 : decode cX10_buy 88 = .ok (.ireturn, 1) := by decide +kernel
theorem dX10_buy_89 : decode cX10_buy 89 = .ok (.aload_n 0, 1) := by decide +kernel
theorem dX10_buy_90 : decode cX10_buy 90 = .ok (.getfield 30, 3) := by decide +kernel
theorem dX10_buy_93 : decode cX10_buy 93 = .ok (.iload 5, 2) := by decide +kernel
theorem dX10_buy_95 : decode cX10_buy 95 = .ok (.invokevirtual 252, 3) := by decide +kernel
theorem dX10_buy_98 : decode cX10_buy 98 = .ok (.ireturn, 1) := by decide +kernel
set_option maxRecDepth 20000 in
theorem ggX10_evens_X10_spreadAfter : GoodIn wsX10_evens wsX10_spreadAfter := goodIn_r _ [14, 15, 16, 17, 18, 19, 20, 21, 22, 2, 23, 3, 24, 25, 26, 27, 28, 29, 30, 31, 13, 32, 33, 34, 35, 36, 37, 38, 39, 40, 41, 42, 43, 44, 45, 46, 47, 48, 49, 50, 51, 52, 53, 54, 55, 56, 57, 58, 59, 60, 61, 62, 63, 64, 6, 7, 8, 9, 65, 66, 67, 68, 4, 69, 70, 71, 72, 73, 74, 75, 76, 77, 78, 79, 80, 81, 82, 83, 84, 85, 86, 87, 88, 89, 96, 97, 98, 99, 100, 101, 102, 103, 90, 91, 92, 93, 94, 95] (by decide +kernel) (by decide +kernel)
set_option maxRecDepth 20000 in
theorem gX10_evens_X10_spreadAfter : GoodIn wsX10_evens (wsV RX10 255 RX10 yX10_spreadAfter wsX10_spreadAfter) := goodIn_app (goodIn_of _ (by decide +kernel)) ggX10_evens_X10_spreadAfter
theorem dX10_evens_0 : decode cX10_evens 0 = .ok (.iload_n 1, 1) := by decide +kernel
theorem dX10_evens_1 : decode cX10_evens 1 = .ok (.iconst 1, 1) := by decide +kernel
theorem dX10_evens_2 : decode cX10_evens 2 = .ok (.if_icmp .lt 18, 3) := by decide +kernel
theorem dX10_evens_5 : decode cX10_evens 5 = .ok (.iload_n 1, 1) := by decide +kernel
theorem dX10_evens_6 : decode cX10_evens 6 = .ok (.bipush 20, 2) := by decide +kernel
theorem dX10_evens_8 : decode cX10_evens 8 = .ok (.if_icmp .gt 12, 3) := by decide +kernel
theorem dX10_evens_11 : decode cX10_evens 11 = .ok (.iload_n 2, 1) := by decide +kernel
theorem dX10_evens_12 : decode cX10_evens 12 = .ok (.ifCond .lt 8, 3) := by decide +kernel
theorem dX10_evens_15 : decode cX10_evens 15 = .ok (.iload_n 2, 1) := by decide +kernel
theorem dX10_evens_16 : decode cX10_evens 16 = .ok (.iconst 1, 1) := by decide +kernel
theorem dX10_evens_17 : decode cX10_evens 17 = .ok (.if_icmp .le 6, 3) := by decide +kernel
theorem dX10_evens_20 : decode cX10_evens 20 = .ok (.ldc 96, 2) := by decide +kernel
theorem dX10_evens_22 : decode cX10_evens 22 = .ok (.ireturn, 1) := by decide +kernel
theorem dX10_evens_23 : decode cX10_evens 23 = .ok (.aload_n 0, 1) := by decide +kernel
theorem dX10_evens_24 : decode cX10_evens 24 = .ok (.getfield 23, 3) := by decide +kernel
theorem dX10_evens_27 : decode cX10_evens 27 = .ok (.getfield 121, 3) := by decide +kernel
theorem dX10_evens_30 : decode cX10_evens 30 = .ok (.ifCond .eq 13, 3) := by decide +kernel
theorem dX10_evens_33 : decode cX10_evens 33 = .ok (.aload_n 0, 1) := by decide +kernel
theorem dX10_evens_34 : decode cX10_evens 34 = .ok (.getfield 23, 3) := by decide +kernel
theorem dX10_evens_37 : decode cX10_evens 37 = .ok (.getfield 124, 3) := by decide +kernel
theorem dX10_evens_40 : decode cX10_evens 40 = .ok (.ifCond .ne 6, 3) := by decide +kernel
theorem dX10_evens_43 : decode cX10_evens 43 = .ok (.ldc 206, 2) := by decide +kernel
theorem dX10_evens_45 : decode cX10_evens 45 = .ok (.ireturn, 1) := by decide +kernel
theorem dX10_evens_46 : decode cX10_evens 46 = .ok (.aload_n 0, 1) := by decide +kernel
theorem dX10_evens_47 : decode cX10_evens 47 = .ok (.iload_n 1, 1) := by decide +kernel
theorem dX10_evens_48 : decode cX10_evens 48 = .ok (.iconst 1, 1) := by decide +kernel
theorem dX10_evens_49 : decode cX10_evens 49 = .ok (.invokevirtual 255, 3) := by decide +kernel
theorem dX10_evens_52 : decode cX10_evens 52 = .ok (.istore_n 3, 1) := by decide +kernel
theorem dX10_evens_53 : decode cX10_evens 53 = .ok (.aload_n 0, 1) := by decide +kernel
theorem dX10_evens_54 : decode cX10_evens 54 = .ok (.iload_n 1, 1) := by decide +kernel
theorem dX10_evens_55 : decode cX10_evens 55 = .ok (.iconst 0, 1) := by decide +kernel
theorem dX10_evens_56 : decode cX10_evens 56 = .ok (.invokevirtual 255, 3) := by decide +kernel
theorem dX10_evens_59 : decode cX10_evens 59 = .ok (.istore 4, 2) := by decide +kernel
theorem dX10_evens_61 : decode cX10_evens 61 = .ok (.iload_n 2, 1) := by decide +kernel
theorem dX10_evens_62 : decode cX10_evens 62 = .ok (.iconst 1, 1) := by decide +kernel
theorem dX10_evens_63 : decode cX10_evens 63 = .ok (.if_icmp .ne 10, 3) := by decide +kernel
theorem dX10_evens_66 : decode cX10_evens 66 = .ok (.iload_n 3, 1) := by decide +kernel
theorem dX10_evens_67 : decode cX10_evens 67 = .ok (.iload 4, 2) := by decide +kernel
theorem dX10_evens_69 : decode cX10_evens 69 = .ok (.invokestatic 220, 3) := by decide +kernel
theorem dX10_evens_72 : decode cX10_evens 72 = .ok (.ireturn, 1) := by decide +kernel
theorem dX10_evens_73 : decode cX10_evens 73 = .ok (.iload_n 3, 1) := by decide +kernel
theorem dX10_evens_74 : decode cX10_evens 74 = .ok (.iload 4, 2) := by decide +kernel
theorem dX10_evens_76 : decode cX10_evens 76 = .ok (.if_icmp .ne 5, 3) := by decide +kernel
theorem dX10_evens_79 : decode cX10_evens 79 = .ok (.iconst 2, 1) := by decide +kernel
theorem dX10_evens_80 : decode cX10_evens 80 = .ok (.ireturn, 1) := by decide +kernel
theorem dX10_evens_81 : decode cX10_evens 81 = .ok (.iload_n 3, 1) := by decide +kernel
theorem dX10_evens_82 : decode cX10_evens 82 = .ok (.iload 4, 2) := by decide +kernel
theorem dX10_evens_84 : decode cX10_evens 84 = .ok (.if_icmp .ge 7, 3) := by decide +kernel
theorem dX10_evens_87 : decode cX10_evens 87 = .ok (.iconst 1, 1) := by decide +kernel
theorem dX10_evens_88 : decode cX10_evens 88 = .ok (.goto 4, 3) := by decide +kernel
theorem dX10_evens_91 : decode cX10_evens 91 = .ok (.iconst 0, 1) := by decide +kernel
theorem dX10_evens_92 : decode cX10_evens 92 = .ok (.ireturn, 1) := by decide +kernel
set_option maxRecDepth 20000 in
theorem ggX10_couples_X10_isPersonOrNone : GoodIn wsX10_couples wsX10_isPersonOrNone := goodIn_r _ [12, 13, 14, 15, 11, 16, 4, 17, 61, 62, 63, 64, 65, 66, 67, 68, 69, 70, 71, 72, 73, 74, 75, 80, 81, 82, 83, 84, 85] (by decide +kernel) (by decide +kernel)
set_option maxRecDepth 20000 in
theorem gX10_couples_X10_isPersonOrNone : GoodIn wsX10_couples (wsV RX10 225 RX10 yX10_isPersonOrNone wsX10_isPersonOrNone) := goodIn_app (goodIn_of _ (by decide +kernel)) ggX10_couples_X10_isPersonOrNone
set_option maxRecDepth 20000 in
theorem ggX10_couples_X9_match : GoodIn wsX10_couples wsX9_match := goodIn_r _ [22, 23, 24, 25, 26, 27, 28, 21, 29, 30, 31, 32, 33, 34, 35, 36, 37, 38, 39, 40, 41, 42, 43, 44, 45, 46, 11, 47, 48, 49, 50, 51, 52, 53, 54, 55, 56, 57, 58, 59, 60, 80, 81, 82, 83, 84, 85, 76, 77, 78, 79, 86, 87, 88, 89, 90, 91, 92, 93] (by decide +kernel) (by decide +kernel)
set_option maxRecDepth 20000 in
theorem gX10_couples_X9_match : GoodIn wsX10_couples (wsV RX10 259 RX9 yX9_match wsX9_match) := goodIn_app (goodIn_of _ (by decide +kernel)) ggX10_couples_X9_match
theorem dX10_couples_0 : decode cX10_couples 0 = .ok (.aload_n 0, 1) := by decide +kernel
theorem dX10_couples_1 : decode cX10_couples 1 = .ok (.iload_n 2, 1) := by decide +kernel
theorem dX10_couples_2 : decode cX10_couples 2 = .ok (.invokevirtual 225, 3) := by decide +kernel
theorem dX10_couples_5 : decode cX10_couples 5 = .ok (.ifCond .ne 6, 3) := by decide +kernel
theorem dX10_couples_8 : decode cX10_couples 8 = .ok (.ldc 167, 2) := by decide +kernel
theorem dX10_couples_10 : decode cX10_couples 10 = .ok (.ireturn, 1) := by decide +kernel
theorem dX10_couples_11 : decode cX10_couples 11 = .ok (.iload_n 1, 1) := by decide +kernel
theorem dX10_couples_12 : decode cX10_couples 12 = .ok (.ifCond .lt 9, 3) := by decide +kernel
theorem dX10_couples_15 : decode cX10_couples 15 = .ok (.iload_n 1, 1) := by decide +kernel
theorem dX10_couples_16 : decode cX10_couples 16 = .ok (.bipush 99, 2) := by decide +kernel
theorem dX10_couples_18 : decode cX10_couples 18 = .ok (.if_icmp .le 6, 3) := by decide +kernel
theorem dX10_couples_21 : decode cX10_couples 21 = .ok (.ldc 96, 2) := by decide +kernel
theorem dX10_couples_23 : decode cX10_couples 23 = .ok (.ireturn, 1) := by decide +kernel
theorem dX10_couples_24 : decode cX10_couples 24 = .ok (.aload_n 0, 1) := by decide +kernel
theorem dX10_couples_25 : decode cX10_couples 25 = .ok (.getfield 58, 3) := by decide +kernel
theorem dX10_couples_28 : decode cX10_couples 28 = .ok (.aload_n 0, 1) := by decide +kernel
theorem dX10_couples_29 : decode cX10_couples 29 = .ok (.getfield 23, 3) := by decide +kernel
theorem dX10_couples_32 : decode cX10_couples 32 = .ok (.aload_n 0, 1) := by decide +kernel
theorem dX10_couples_33 : decode cX10_couples 33 = .ok (.getfield 30, 3) := by decide +kernel
theorem dX10_couples_36 : decode cX10_couples 36 = .ok (.iload_n 1, 1) := by decide +kernel
theorem dX10_couples_37 : decode cX10_couples 37 = .ok (.invokevirtual 259, 3) := by decide +kernel
theorem dX10_couples_40 : decode cX10_couples 40 = .ok (.iload_n 2, 1) := by decide +kernel
theorem dX10_couples_41 : decode cX10_couples 41 = .ok (.iconst (-1), 1) := by decide +kernel
theorem dX10_couples_42 : decode cX10_couples 42 = .ok (.if_icmp .ne 13, 3) := by decide +kernel
theorem dX10_couples_45 : decode cX10_couples 45 = .ok (.aload_n 0, 1) := by decide +kernel
theorem dX10_couples_46 : decode cX10_couples 46 = .ok (.getfield 58, 3) := by decide +kernel
theorem dX10_couples_49 : decode cX10_couples 49 = .ok (.getfield 263, 3) := by decide +kernel
theorem dX10_couples_52 : decode cX10_couples 52 = .ok (.goto 12, 3) := by decide +kernel
theorem dX10_couples_55 : decode cX10_couples 55 = .ok (.aload_n 0, 1) := by decide +kernel
theorem dX10_couples_56 : decode cX10_couples 56 = .ok (.getfield 58, 3) := by decide +kernel
theorem dX10_couples_59 : decode cX10_couples 59 = .ok (.getfield 266, 3) := by decide +kernel
theorem dX10_couples_62 : decode cX10_couples 62 = .ok (.iload_n 2, 1) := by decide +kernel
theorem dX10_couples_63 : decode cX10_couples 63 = .ok (.iaload, 1) := by decide +kernel
theorem dX10_couples_64 : decode cX10_couples 64 = .ok (.ireturn, 1) := by decide +kernel
set_option maxRecDepth 20000 in
theorem ggX10_see_X10_isTicket : GoodIn wsX10_see wsX10_isTicket := goodIn_r _ [9, 10, 11, 19, 20, 21, 22, 23, 24, 25, 26, 27, 28, 29, 30, 31, 32, 33, 36, 37, 38, 39, 40, 41] (by decide +kernel) (by decide +kernel)
set_option maxRecDepth 20000 in
theorem gX10_see_X10_isTicket : GoodIn wsX10_see (wsV RX10 181 RX10 yX10_isTicket wsX10_isTicket) := goodIn_app (goodIn_of _ (by decide +kernel)) ggX10_see_X10_isTicket
set_option maxRecDepth 20000 in
theorem ggX10_see_X8_add : GoodIn wsX10_see wsX8_add := goodIn_r _ [16, 17, 18, 34, 35] (by decide +kernel) (by decide +kernel)
set_option maxRecDepth 20000 in
theorem gX10_see_X8_add : GoodIn wsX10_see (wsV RX10 269 RX8 yX8_add wsX8_add) := goodIn_app (goodIn_of _ (by decide +kernel)) ggX10_see_X8_add
theorem dX10_see_0 : decode cX10_see 0 = .ok (.aload_n 0, 1) := by decide +kernel
theorem dX10_see_1 : decode cX10_see 1 = .ok (.iload_n 1, 1) := by decide +kernel
theorem dX10_see_2 : decode cX10_see 2 = .ok (.invokevirtual 181, 3) := by decide +kernel
theorem dX10_see_5 : decode cX10_see 5 = .ok (.ifCond .ne 6, 3) := by decide +kernel
theorem dX10_see_8 : decode cX10_see 8 = .ok (.ldc 167, 2) := by decide +kernel
theorem dX10_see_10 : decode cX10_see 10 = .ok (.ireturn, 1) := by decide +kernel
theorem dX10_see_11 : decode cX10_see 11 = .ok (.aload_n 0, 1) := by decide +kernel
theorem dX10_see_12 : decode cX10_see 12 = .ok (.getfield 65, 3) := by decide +kernel
theorem dX10_see_15 : decode cX10_see 15 = .ok (.getfield 153, 3) := by decide +kernel
theorem dX10_see_18 : decode cX10_see 18 = .ok (.bipush 8, 2) := by decide +kernel
theorem dX10_see_20 : decode cX10_see 20 = .ok (.if_icmp .lt 6, 3) := by decide +kernel
theorem dX10_see_23 : decode cX10_see 23 = .ok (.ldc 97, 2) := by decide +kernel
theorem dX10_see_25 : decode cX10_see 25 = .ok (.ireturn, 1) := by decide +kernel
theorem dX10_see_26 : decode cX10_see 26 = .ok (.aload_n 0, 1) := by decide +kernel
theorem dX10_see_27 : decode cX10_see 27 = .ok (.getfield 65, 3) := by decide +kernel
theorem dX10_see_30 : decode cX10_see 30 = .ok (.iload_n 1, 1) := by decide +kernel
theorem dX10_see_31 : decode cX10_see 31 = .ok (.invokevirtual 269, 3) := by decide +kernel
theorem dX10_see_34 : decode cX10_see 34 = .ok (.ireturn, 1) := by decide +kernel
set_option maxRecDepth 20000 in
theorem ggX10_belief_X10_isTicket : GoodIn wsX10_belief wsX10_isTicket := goodIn_r _ [8, 3, 9, 38, 39, 40, 41, 42, 43, 44, 45, 46, 47, 48, 49, 50, 51, 52, 53, 54, 55, 56, 57, 58] (by decide +kernel) (by decide +kernel)
set_option maxRecDepth 20000 in
theorem gX10_belief_X10_isTicket : GoodIn wsX10_belief (wsV RX10 181 RX10 yX10_isTicket wsX10_isTicket) := goodIn_app (goodIn_of _ (by decide +kernel)) ggX10_belief_X10_isTicket
set_option maxRecDepth 20000 in
theorem ggX10_belief_X8_millionths : GoodIn wsX10_belief wsX8_millionths := goodIn_r _ [14, 15, 16, 17, 18, 19, 13, 20, 21, 22, 23, 24, 25, 26, 27, 28, 29, 30, 31, 32, 33, 34, 35, 36, 7, 37, 53, 54, 55, 56, 57, 58, 59, 60] (by decide +kernel) (by decide +kernel)
set_option maxRecDepth 20000 in
theorem gX10_belief_X8_millionths : GoodIn wsX10_belief (wsV RX10 272 RX8 yX8_millionths wsX8_millionths) := goodIn_app (goodIn_of _ (by decide +kernel)) ggX10_belief_X8_millionths
theorem dX10_belief_0 : decode cX10_belief 0 = .ok (.iload_n 1, 1) := by decide +kernel
theorem dX10_belief_1 : decode cX10_belief 1 = .ok (.iconst (-1), 1) := by decide +kernel
theorem dX10_belief_2 : decode cX10_belief 2 = .ok (.if_icmp .eq 14, 3) := by decide +kernel
theorem dX10_belief_5 : decode cX10_belief 5 = .ok (.aload_n 0, 1) := by decide +kernel
theorem dX10_belief_6 : decode cX10_belief 6 = .ok (.iload_n 1, 1) := by decide +kernel
theorem dX10_belief_7 : decode cX10_belief 7 = .ok (.invokevirtual 181, 3) := by decide +kernel
theorem dX10_belief_10 : decode cX10_belief 10 = .ok (.ifCond .ne 6, 3) := by decide +kernel
theorem dX10_belief_13 : decode cX10_belief 13 = .ok (.ldc 167, 2) := by decide +kernel
theorem dX10_belief_15 : decode cX10_belief 15 = .ok (.ireturn, 1) := by decide +kernel
theorem dX10_belief_16 : decode cX10_belief 16 = .ok (.aload_n 0, 1) := by decide +kernel
theorem dX10_belief_17 : decode cX10_belief 17 = .ok (.getfield 65, 3) := by decide +kernel
theorem dX10_belief_20 : decode cX10_belief 20 = .ok (.aload_n 0, 1) := by decide +kernel
theorem dX10_belief_21 : decode cX10_belief 21 = .ok (.getfield 23, 3) := by decide +kernel
theorem dX10_belief_24 : decode cX10_belief 24 = .ok (.iload_n 1, 1) := by decide +kernel
theorem dX10_belief_25 : decode cX10_belief 25 = .ok (.invokevirtual 272, 3) := by decide +kernel
theorem dX10_belief_28 : decode cX10_belief 28 = .ok (.ireturn, 1) := by decide +kernel
set_option maxRecDepth 20000 in
theorem ggX10_likeliest_X8_heaviest : GoodIn wsX10_likeliest wsX8_heaviest := goodIn_r _ [7, 8, 9, 10, 11, 12, 6, 13, 14, 15, 16, 17, 18, 19, 20, 21, 22, 23, 24, 25, 26, 27, 28, 29, 30, 31, 47, 48, 49, 50, 51, 52, 53, 54] (by decide +kernel) (by decide +kernel)
set_option maxRecDepth 20000 in
theorem gX10_likeliest_X8_heaviest : GoodIn wsX10_likeliest (wsV RX10 276 RX8 yX8_heaviest wsX8_heaviest) := goodIn_app (goodIn_of _ (by decide +kernel)) ggX10_likeliest_X8_heaviest
theorem dX10_likeliest_0 : decode cX10_likeliest 0 = .ok (.aload_n 0, 1) := by decide +kernel
theorem dX10_likeliest_1 : decode cX10_likeliest 1 = .ok (.getfield 65, 3) := by decide +kernel
theorem dX10_likeliest_4 : decode cX10_likeliest 4 = .ok (.aload_n 0, 1) := by decide +kernel
theorem dX10_likeliest_5 : decode cX10_likeliest 5 = .ok (.getfield 23, 3) := by decide +kernel
theorem dX10_likeliest_8 : decode cX10_likeliest 8 = .ok (.invokevirtual 276, 3) := by decide +kernel
theorem dX10_likeliest_11 : decode cX10_likeliest 11 = .ok (.ireturn, 1) := by decide +kernel
set_option maxRecDepth 20000 in
theorem ggX10_candles_X10_isPerson : GoodIn wsX10_candles wsX10_isPerson := goodIn_r _ [8, 9, 10, 18, 19, 20, 21, 22, 23, 24, 25, 26, 27, 28, 29, 30, 31, 32, 33, 34, 35, 36, 37, 38] (by decide +kernel) (by decide +kernel)
set_option maxRecDepth 20000 in
theorem gX10_candles_X10_isPerson : GoodIn wsX10_candles (wsV RX10 163 RX10 yX10_isPerson wsX10_isPerson) := goodIn_app (goodIn_of _ (by decide +kernel)) ggX10_candles_X10_isPerson
set_option maxRecDepth 20000 in
theorem ggX10_candles_X1_light : GoodIn wsX10_candles wsX1_light := goodIn_r _ [15, 16, 17, 39, 40, 41, 42, 43, 44, 45, 46] (by decide +kernel) (by decide +kernel)
set_option maxRecDepth 20000 in
theorem gX10_candles_X1_light : GoodIn wsX10_candles (wsV RX10 280 RX1 yX1_light wsX1_light) := goodIn_app (goodIn_of _ (by decide +kernel)) ggX10_candles_X1_light
theorem dX10_candles_0 : decode cX10_candles 0 = .ok (.aload_n 0, 1) := by decide +kernel
theorem dX10_candles_1 : decode cX10_candles 1 = .ok (.iload_n 1, 1) := by decide +kernel
theorem dX10_candles_2 : decode cX10_candles 2 = .ok (.invokevirtual 163, 3) := by decide +kernel
theorem dX10_candles_5 : decode cX10_candles 5 = .ok (.ifCond .ne 6, 3) := by decide +kernel
theorem dX10_candles_8 : decode cX10_candles 8 = .ok (.ldc 167, 2) := by decide +kernel
theorem dX10_candles_10 : decode cX10_candles 10 = .ok (.ireturn, 1) := by decide +kernel
theorem dX10_candles_11 : decode cX10_candles 11 = .ok (.iload_n 2, 1) := by decide +kernel
theorem dX10_candles_12 : decode cX10_candles 12 = .ok (.ifCond .lt 10, 3) := by decide +kernel
theorem dX10_candles_15 : decode cX10_candles 15 = .ok (.iload_n 2, 1) := by decide +kernel
theorem dX10_candles_16 : decode cX10_candles 16 = .ok (.sipush 999, 3) := by decide +kernel
theorem dX10_candles_19 : decode cX10_candles 19 = .ok (.if_icmp .le 6, 3) := by decide +kernel
theorem dX10_candles_22 : decode cX10_candles 22 = .ok (.ldc 96, 2) := by decide +kernel
theorem dX10_candles_24 : decode cX10_candles 24 = .ok (.ireturn, 1) := by decide +kernel
theorem dX10_candles_25 : decode cX10_candles 25 = .ok (.aload_n 0, 1) := by decide +kernel
theorem dX10_candles_26 : decode cX10_candles 26 = .ok (.getfield 72, 3) := by decide +kernel
theorem dX10_candles_29 : decode cX10_candles 29 = .ok (.iload_n 1, 1) := by decide +kernel
theorem dX10_candles_30 : decode cX10_candles 30 = .ok (.iload_n 2, 1) := by decide +kernel
theorem dX10_candles_31 : decode cX10_candles 31 = .ok (.invokevirtual 280, 3) := by decide +kernel
theorem dX10_candles_34 : decode cX10_candles 34 = .ok (.ireturn, 1) := by decide +kernel
set_option maxRecDepth 20000 in
theorem ggX10_rows_X1_search : GoodIn wsX10_rows wsX1_search := goodIn_r _ [12, 13, 14, 15, 16, 17, 18, 19, 20, 21, 22, 23, 24, 25, 26, 27, 28, 29, 30, 31, 32, 33, 34, 35, 36, 37, 38, 39, 40, 41, 11, 42, 43, 44, 45, 46, 47, 48, 49, 50, 51, 52, 53, 54, 55, 56, 57, 58, 59, 60, 61, 62, 63, 64, 65, 66, 67, 68, 69, 70, 71, 72, 73, 74, 75, 76, 77, 78, 112, 113, 114, 115, 116, 117, 118, 119, 104, 105, 106, 107, 108, 109, 110, 111, 98, 99, 100, 101, 102, 103] (by decide +kernel) (by decide +kernel)
set_option maxRecDepth 20000 in
theorem gX10_rows_X1_search : GoodIn wsX10_rows (wsV RX10 283 RX1 yX1_search wsX1_search) := goodIn_app (goodIn_of _ (by decide +kernel)) ggX10_rows_X1_search
set_option maxRecDepth 20000 in
theorem ggX10_rows_X1_firstAt : GoodIn wsX10_rows wsX1_firstAt := goodIn_r _ [82, 19, 25, 49, 104, 105, 106, 107, 108, 109, 110, 111] (by decide +kernel) (by decide +kernel)
set_option maxRecDepth 20000 in
theorem gX10_rows_X1_firstAt : GoodIn wsX10_rows (wsV RX10 289 RX1 yX1_firstAt wsX1_firstAt) := goodIn_app (goodIn_of _ (by decide +kernel)) ggX10_rows_X1_firstAt
theorem dX10_rows_0 : decode cX10_rows 0 = .ok (.iload_n 1, 1) := by decide +kernel
theorem dX10_rows_1 : decode cX10_rows 1 = .ok (.iconst 1, 1) := by decide +kernel
theorem dX10_rows_2 : decode cX10_rows 2 = .ok (.if_icmp .lt 8, 3) := by decide +kernel
theorem dX10_rows_5 : decode cX10_rows 5 = .ok (.iload_n 1, 1) := by decide +kernel
theorem dX10_rows_6 : decode cX10_rows 6 = .ok (.iconst 4, 1) := by decide +kernel
theorem dX10_rows_7 : decode cX10_rows 7 = .ok (.if_icmp .le 6, 3) := by decide +kernel
theorem dX10_rows_10 : decode cX10_rows 10 = .ok (.ldc 96, 2) := by decide +kernel
theorem dX10_rows_12 : decode cX10_rows 12 = .ok (.ireturn, 1) := by decide +kernel
theorem dX10_rows_13 : decode cX10_rows 13 = .ok (.aload_n 0, 1) := by decide +kernel
theorem dX10_rows_14 : decode cX10_rows 14 = .ok (.getfield 23, 3) := by decide +kernel
theorem dX10_rows_17 : decode cX10_rows 17 = .ok (.getfield 124, 3) := by decide +kernel
theorem dX10_rows_20 : decode cX10_rows 20 = .ok (.ifCond .ne 6, 3) := by decide +kernel
theorem dX10_rows_23 : decode cX10_rows 23 = .ok (.ldc 206, 2) := by decide +kernel
theorem dX10_rows_25 : decode cX10_rows 25 = .ok (.ireturn, 1) := by decide +kernel
theorem dX10_rows_26 : decode cX10_rows 26 = .ok (.aload_n 0, 1) := by decide +kernel
theorem dX10_rows_27 : decode cX10_rows 27 = .ok (.getfield 72, 3) := by decide +kernel
theorem dX10_rows_30 : decode cX10_rows 30 = .ok (.aload_n 0, 1) := by decide +kernel
theorem dX10_rows_31 : decode cX10_rows 31 = .ok (.getfield 23, 3) := by decide +kernel
theorem dX10_rows_34 : decode cX10_rows 34 = .ok (.aload_n 0, 1) := by decide +kernel
theorem dX10_rows_35 : decode cX10_rows 35 = .ok (.getfield 30, 3) := by decide +kernel
theorem dX10_rows_38 : decode cX10_rows 38 = .ok (.iload_n 1, 1) := by decide +kernel
theorem dX10_rows_39 : decode cX10_rows 39 = .ok (.invokevirtual 283, 3) := by decide +kernel
theorem dX10_rows_42 : decode cX10_rows 42 = .ok (.iload_n 2, 1) := by decide +kernel
theorem dX10_rows_43 : decode cX10_rows 43 = .ok (.iconst (-1), 1) := by decide +kernel
theorem dX10_rows_44 : decode cX10_rows 44 = .ok (.if_icmp .ne 13, 3) := by decide +kernel
theorem dX10_rows_47 : decode cX10_rows 47 = .ok (.aload_n 0, 1) := by decide +kernel
theorem dX10_rows_48 : decode cX10_rows 48 = .ok (.getfield 72, 3) := by decide +kernel
theorem dX10_rows_51 : decode cX10_rows 51 = .ok (.getfield 286, 3) := by decide +kernel
theorem dX10_rows_54 : decode cX10_rows 54 = .ok (.goto 11, 3) := by decide +kernel
theorem dX10_rows_57 : decode cX10_rows 57 = .ok (.aload_n 0, 1) := by decide +kernel
theorem dX10_rows_58 : decode cX10_rows 58 = .ok (.getfield 72, 3) := by decide +kernel
theorem dX10_rows_61 : decode cX10_rows 61 = .ok (.iload_n 2, 1) := by decide +kernel
theorem dX10_rows_62 : decode cX10_rows 62 = .ok (.invokevirtual 289, 3) := by decide +kernel
theorem dX10_rows_65 : decode cX10_rows 65 = .ok (.ireturn, 1) := by decide +kernel
set_option maxRecDepth 20000 in
theorem ggX10_sure_X1_search : GoodIn wsX10_sure wsX1_search := goodIn_r _ [13, 14, 15, 16, 17, 18, 19, 20, 21, 22, 23, 24, 25, 26, 27, 28, 29, 30, 31, 32, 33, 34, 35, 36, 37, 38, 39, 40, 41, 42, 12, 43, 44, 45, 46, 47, 48, 49, 50, 51, 52, 53, 54, 55, 56, 57, 58, 59, 60, 61, 62, 63, 64, 65, 66, 67, 68, 69, 70, 71, 72, 73, 74, 75, 76, 77, 78, 79, 109, 110, 111, 112, 113, 114, 115, 116, 101, 102, 103, 104, 105, 106, 107, 108, 95, 96, 97, 98, 99, 100] (by decide +kernel) (by decide +kernel)
set_option maxRecDepth 20000 in
theorem gX10_sure_X1_search : GoodIn wsX10_sure (wsV RX10 283 RX1 yX1_search wsX1_search) := goodIn_app (goodIn_of _ (by decide +kernel)) ggX10_sure_X1_search
theorem dX10_sure_0 : decode cX10_sure 0 = .ok (.iload_n 1, 1) := by decide +kernel
theorem dX10_sure_1 : decode cX10_sure 1 = .ok (.iconst 1, 1) := by decide +kernel
theorem dX10_sure_2 : decode cX10_sure 2 = .ok (.if_icmp .lt 8, 3) := by decide +kernel
theorem dX10_sure_5 : decode cX10_sure 5 = .ok (.iload_n 1, 1) := by decide +kernel
theorem dX10_sure_6 : decode cX10_sure 6 = .ok (.iconst 4, 1) := by decide +kernel
theorem dX10_sure_7 : decode cX10_sure 7 = .ok (.if_icmp .le 6, 3) := by decide +kernel
theorem dX10_sure_10 : decode cX10_sure 10 = .ok (.ldc 96, 2) := by decide +kernel
theorem dX10_sure_12 : decode cX10_sure 12 = .ok (.ireturn, 1) := by decide +kernel
theorem dX10_sure_13 : decode cX10_sure 13 = .ok (.aload_n 0, 1) := by decide +kernel
theorem dX10_sure_14 : decode cX10_sure 14 = .ok (.getfield 23, 3) := by decide +kernel
theorem dX10_sure_17 : decode cX10_sure 17 = .ok (.getfield 124, 3) := by decide +kernel
theorem dX10_sure_20 : decode cX10_sure 20 = .ok (.ifCond .ne 6, 3) := by decide +kernel
theorem dX10_sure_23 : decode cX10_sure 23 = .ok (.ldc 206, 2) := by decide +kernel
theorem dX10_sure_25 : decode cX10_sure 25 = .ok (.ireturn, 1) := by decide +kernel
theorem dX10_sure_26 : decode cX10_sure 26 = .ok (.aload_n 0, 1) := by decide +kernel
theorem dX10_sure_27 : decode cX10_sure 27 = .ok (.getfield 72, 3) := by decide +kernel
theorem dX10_sure_30 : decode cX10_sure 30 = .ok (.aload_n 0, 1) := by decide +kernel
theorem dX10_sure_31 : decode cX10_sure 31 = .ok (.getfield 23, 3) := by decide +kernel
theorem dX10_sure_34 : decode cX10_sure 34 = .ok (.aload_n 0, 1) := by decide +kernel
theorem dX10_sure_35 : decode cX10_sure 35 = .ok (.getfield 30, 3) := by decide +kernel
theorem dX10_sure_38 : decode cX10_sure 38 = .ok (.iload_n 1, 1) := by decide +kernel
theorem dX10_sure_39 : decode cX10_sure 39 = .ok (.invokevirtual 283, 3) := by decide +kernel
theorem dX10_sure_42 : decode cX10_sure 42 = .ok (.aload_n 0, 1) := by decide +kernel
theorem dX10_sure_43 : decode cX10_sure 43 = .ok (.getfield 72, 3) := by decide +kernel
theorem dX10_sure_46 : decode cX10_sure 46 = .ok (.getfield 286, 3) := by decide +kernel
theorem dX10_sure_49 : decode cX10_sure 49 = .ok (.ifCond .ne 7, 3) := by decide +kernel
theorem dX10_sure_52 : decode cX10_sure 52 = .ok (.iconst 0, 1) := by decide +kernel
theorem dX10_sure_53 : decode cX10_sure 53 = .ok (.goto 10, 3) := by decide +kernel
theorem dX10_sure_56 : decode cX10_sure 56 = .ok (.aload_n 0, 1) := by decide +kernel
theorem dX10_sure_57 : decode cX10_sure 57 = .ok (.getfield 72, 3) := by decide +kernel
theorem dX10_sure_60 : decode cX10_sure 60 = .ok (.getfield 292, 3) := by decide +kernel
theorem dX10_sure_63 : decode cX10_sure 63 = .ok (.ireturn, 1) := by decide +kernel
set_option maxRecDepth 20000 in
theorem ggX10_write_X10_isTicket : GoodIn wsX10_write wsX10_isTicket := goodIn_r _ [9, 10, 11, 19, 20, 21, 22, 23, 24, 25, 26, 27, 28, 29, 30, 31, 32, 33, 36, 37, 38, 39, 40, 41] (by decide +kernel) (by decide +kernel)
set_option maxRecDepth 20000 in
theorem gX10_write_X10_isTicket : GoodIn wsX10_write (wsV RX10 181 RX10 yX10_isTicket wsX10_isTicket) := goodIn_app (goodIn_of _ (by decide +kernel)) ggX10_write_X10_isTicket
set_option maxRecDepth 20000 in
theorem ggX10_write_X0_add : GoodIn wsX10_write wsX0_add := goodIn_r _ [16, 17, 18, 34, 35] (by decide +kernel) (by decide +kernel)
set_option maxRecDepth 20000 in
theorem gX10_write_X0_add : GoodIn wsX10_write (wsV RX10 295 RX0 yX0_add wsX0_add) := goodIn_app (goodIn_of _ (by decide +kernel)) ggX10_write_X0_add
theorem dX10_write_0 : decode cX10_write 0 = .ok (.aload_n 0, 1) := by decide +kernel
theorem dX10_write_1 : decode cX10_write 1 = .ok (.iload_n 1, 1) := by decide +kernel
theorem dX10_write_2 : decode cX10_write 2 = .ok (.invokevirtual 181, 3) := by decide +kernel
theorem dX10_write_5 : decode cX10_write 5 = .ok (.ifCond .ne 6, 3) := by decide +kernel
theorem dX10_write_8 : decode cX10_write 8 = .ok (.ldc 167, 2) := by decide +kernel
theorem dX10_write_10 : decode cX10_write 10 = .ok (.ireturn, 1) := by decide +kernel
theorem dX10_write_11 : decode cX10_write 11 = .ok (.aload_n 0, 1) := by decide +kernel
theorem dX10_write_12 : decode cX10_write 12 = .ok (.getfield 79, 3) := by decide +kernel
theorem dX10_write_15 : decode cX10_write 15 = .ok (.getfield 157, 3) := by decide +kernel
theorem dX10_write_18 : decode cX10_write 18 = .ok (.bipush 20, 2) := by decide +kernel
theorem dX10_write_20 : decode cX10_write 20 = .ok (.if_icmp .lt 6, 3) := by decide +kernel
theorem dX10_write_23 : decode cX10_write 23 = .ok (.ldc 97, 2) := by decide +kernel
theorem dX10_write_25 : decode cX10_write 25 = .ok (.ireturn, 1) := by decide +kernel
theorem dX10_write_26 : decode cX10_write 26 = .ok (.aload_n 0, 1) := by decide +kernel
theorem dX10_write_27 : decode cX10_write 27 = .ok (.getfield 79, 3) := by decide +kernel
theorem dX10_write_30 : decode cX10_write 30 = .ok (.iload_n 1, 1) := by decide +kernel
theorem dX10_write_31 : decode cX10_write 31 = .ok (.invokevirtual 295, 3) := by decide +kernel
theorem dX10_write_34 : decode cX10_write 34 = .ok (.ireturn, 1) := by decide +kernel
set_option maxRecDepth 20000 in
theorem ggX10_judge_X0_wrong : GoodIn wsX10_judge wsX0_wrong := goodIn_r _ [8, 9, 10, 11, 12, 13, 14, 15, 16, 17, 18, 19, 20, 21, 22, 23, 24, 25, 26, 27, 28, 29, 30, 31, 32, 33, 34, 35, 36, 37, 38, 39, 55, 56, 57, 58, 59, 60, 61, 62, 63, 64, 65, 66, 67, 68, 69, 70] (by decide +kernel) (by decide +kernel)
set_option maxRecDepth 20000 in
theorem gX10_judge_X0_wrong : GoodIn wsX10_judge (wsV RX10 296 RX0 yX0_wrong wsX0_wrong) := goodIn_app (goodIn_of _ (by decide +kernel)) ggX10_judge_X0_wrong
theorem dX10_judge_0 : decode cX10_judge 0 = .ok (.aload_n 0, 1) := by decide +kernel
theorem dX10_judge_1 : decode cX10_judge 1 = .ok (.getfield 79, 3) := by decide +kernel
theorem dX10_judge_4 : decode cX10_judge 4 = .ok (.aload_n 0, 1) := by decide +kernel
theorem dX10_judge_5 : decode cX10_judge 5 = .ok (.getfield 23, 3) := by decide +kernel
theorem dX10_judge_8 : decode cX10_judge 8 = .ok (.aload_n 0, 1) := by decide +kernel
theorem dX10_judge_9 : decode cX10_judge 9 = .ok (.getfield 30, 3) := by decide +kernel
theorem dX10_judge_12 : decode cX10_judge 12 = .ok (.invokevirtual 296, 3) := by decide +kernel
theorem dX10_judge_15 : decode cX10_judge 15 = .ok (.ireturn, 1) := by decide +kernel
set_option maxRecDepth 20000 in
theorem ggX10_ageBy_X10_isPerson : GoodIn wsX10_ageBy wsX10_isPerson := goodIn_r _ [9, 3, 10, 64, 65, 66, 67, 68, 69, 70, 71, 72, 73, 74, 75, 76, 77, 78, 79, 80, 81, 82, 83, 84] (by decide +kernel) (by decide +kernel)
set_option maxRecDepth 20000 in
theorem gX10_ageBy_X10_isPerson : GoodIn wsX10_ageBy (wsV RX10 163 RX10 yX10_isPerson wsX10_isPerson) := goodIn_app (goodIn_of _ (by decide +kernel)) ggX10_ageBy_X10_isPerson
set_option maxRecDepth 20000 in
theorem ggX10_ageBy_X0_ageBehind : GoodIn wsX10_ageBy wsX0_ageBehind := goodIn_r _ [15, 16, 17, 18, 19, 20, 21, 14, 22, 23, 24, 25, 8, 26, 27, 28, 29, 30, 31, 32, 33, 34, 35, 36, 37, 38, 39, 40, 41, 42, 43, 44, 45, 46, 47, 48, 49, 50, 51, 52, 53, 54, 55, 56, 57, 58, 59, 60, 61, 62, 63, 85, 86, 87, 88, 89, 90, 91, 92, 93, 94, 79, 80, 81, 82, 83, 84] (by decide +kernel) (by decide +kernel)
set_option maxRecDepth 20000 in
theorem gX10_ageBy_X0_ageBehind : GoodIn wsX10_ageBy (wsV RX10 300 RX0 yX0_ageBehind wsX0_ageBehind) := goodIn_app (goodIn_of _ (by decide +kernel)) ggX10_ageBy_X0_ageBehind
theorem dX10_ageBy_0 : decode cX10_ageBy 0 = .ok (.aload_n 0, 1) := by decide +kernel
theorem dX10_ageBy_1 : decode cX10_ageBy 1 = .ok (.iload_n 1, 1) := by decide +kernel
theorem dX10_ageBy_2 : decode cX10_ageBy 2 = .ok (.invokevirtual 163, 3) := by decide +kernel
theorem dX10_ageBy_5 : decode cX10_ageBy 5 = .ok (.ifCond .ne 6, 3) := by decide +kernel
theorem dX10_ageBy_8 : decode cX10_ageBy 8 = .ok (.ldc 167, 2) := by decide +kernel
theorem dX10_ageBy_10 : decode cX10_ageBy 10 = .ok (.ireturn, 1) := by decide +kernel
theorem dX10_ageBy_11 : decode cX10_ageBy 11 = .ok (.aload_n 0, 1) := by decide +kernel
theorem dX10_ageBy_12 : decode cX10_ageBy 12 = .ok (.getfield 79, 3) := by decide +kernel
theorem dX10_ageBy_15 : decode cX10_ageBy 15 = .ok (.aload_n 0, 1) := by decide +kernel
theorem dX10_ageBy_16 : decode cX10_ageBy 16 = .ok (.getfield 23, 3) := by decide +kernel
theorem dX10_ageBy_19 : decode cX10_ageBy 19 = .ok (.aload_n 0, 1) := by decide +kernel
theorem dX10_ageBy_20 : decode cX10_ageBy 20 = .ok (.getfield 30, 3) := by decide +kernel
theorem dX10_ageBy_23 : decode cX10_ageBy 23 = .ok (.iload_n 1, 1) := by decide +kernel
theorem dX10_ageBy_24 : decode cX10_ageBy 24 = .ok (.invokevirtual 300, 3) := by decide +kernel
theorem dX10_ageBy_27 : decode cX10_ageBy 27 = .ok (.ireturn, 1) := by decide +kernel
set_option maxRecDepth 20000 in
theorem ggX10_tear_J6_bitCount_0f7a4 : GoodIn wsX10_tear wsJ6_bitCount_0f7a4 := goodIn_r _ [10, 11, 12, 13] (by decide +kernel) (by decide +kernel)
set_option maxRecDepth 20000 in
theorem gX10_tear_J6_bitCount_0f7a4 : GoodIn wsX10_tear (va_wsS RX10 304 yJ6_bitCount_0f7a4 wsJ6_bitCount_0f7a4) := goodIn_app (goodIn_of _ (by decide +kernel)) ggX10_tear_J6_bitCount_0f7a4
set_option maxRecDepth 20000 in
theorem ggX10_tear_X10_forgetSeen : GoodIn wsX10_tear wsX10_forgetSeen := goodIn_r _ [18, 1, 2, 3, 4, 5, 6, 19, 20, 21, 22, 23, 24, 25, 26, 27, 28, 29, 30, 31, 32, 33, 34, 35, 36, 37, 38, 39, 40, 41, 42, 43, 44, 45] (by decide +kernel) (by decide +kernel)
set_option maxRecDepth 20000 in
theorem gX10_tear_X10_forgetSeen : GoodIn wsX10_tear (wsV RX10 114 RX10 yX10_forgetSeen wsX10_forgetSeen) := goodIn_app (goodIn_of _ (by decide +kernel)) ggX10_tear_X10_forgetSeen
theorem dX10_tear_0 : decode cX10_tear 0 = .ok (.aload_n 0, 1) := by decide +kernel
theorem dX10_tear_1 : decode cX10_tear 1 = .ok (.getfield 65, 3) := by decide +kernel
theorem dX10_tear_4 : decode cX10_tear 4 = .ok (.getfield 153, 3) := by decide +kernel
theorem dX10_tear_7 : decode cX10_tear 7 = .ok (.aload_n 0, 1) := by decide +kernel
theorem dX10_tear_8 : decode cX10_tear 8 = .ok (.getfield 72, 3) := by decide +kernel
theorem dX10_tear_11 : decode cX10_tear 11 = .ok (.getfield 156, 3) := by decide +kernel
theorem dX10_tear_14 : decode cX10_tear 14 = .ok (.invokestatic 304, 3) := by decide +kernel
theorem dX10_tear_17 : decode cX10_tear 17 = .ok (.iadd, 1) := by decide +kernel
theorem dX10_tear_18 : decode cX10_tear 18 = .ok (.aload_n 0, 1) := by decide +kernel
theorem dX10_tear_19 : decode cX10_tear 19 = .ok (.getfield 79, 3) := by decide +kernel
theorem dX10_tear_22 : decode cX10_tear 22 = .ok (.getfield 157, 3) := by decide +kernel
theorem dX10_tear_25 : decode cX10_tear 25 = .ok (.iadd, 1) := by decide +kernel
theorem dX10_tear_26 : decode cX10_tear 26 = .ok (.istore_n 1, 1) := by decide +kernel
theorem dX10_tear_27 : decode cX10_tear 27 = .ok (.aload_n 0, 1) := by decide +kernel
theorem dX10_tear_28 : decode cX10_tear 28 = .ok (.invokevirtual 114, 3) := by decide +kernel
theorem dX10_tear_31 : decode cX10_tear 31 = .ok (.iload_n 1, 1) := by decide +kernel
theorem dX10_tear_32 : decode cX10_tear 32 = .ok (.ireturn, 1) := by decide +kernel
theorem dX10_seed_0 : decode cX10_seed 0 = .ok (.iload_n 1, 1) := by decide +kernel
theorem dX10_seed_1 : decode cX10_seed 1 = .ok (.ifCond .ge 6, 3) := by decide +kernel
theorem dX10_seed_4 : decode cX10_seed 4 = .ok (.ldc 96, 2) := by decide +kernel
theorem dX10_seed_6 : decode cX10_seed 6 = .ok (.ireturn, 1) := by decide +kernel
theorem dX10_seed_7 : decode cX10_seed 7 = .ok (.aload_n 0, 1) := by decide +kernel
theorem dX10_seed_8 : decode cX10_seed 8 = .ok (.getfield 93, 3) := by decide +kernel
theorem dX10_seed_11 : decode cX10_seed 11 = .ok (.istore_n 2, 1) := by decide +kernel
theorem dX10_seed_12 : decode cX10_seed 12 = .ok (.aload_n 0, 1) := by decide +kernel
theorem dX10_seed_13 : decode cX10_seed 13 = .ok (.iload_n 1, 1) := by decide +kernel
theorem dX10_seed_14 : decode cX10_seed 14 = .ok (.putfield 93, 3) := by decide +kernel
theorem dX10_seed_17 : decode cX10_seed 17 = .ok (.iload_n 2, 1) := by decide +kernel
theorem dX10_seed_18 : decode cX10_seed 18 = .ok (.ireturn, 1) := by decide +kernel
set_option maxRecDepth 20000 in
theorem ggX10_keep_X3_store : GoodIn wsX10_keep wsX3_store := goodIn_r _ [10, 11, 12, 13, 14, 15, 16, 17, 18, 19, 20, 21, 22, 23, 24, 25, 26, 27, 28, 29, 30, 53, 54, 55, 56, 57, 58, 59, 60, 61, 62, 63] (by decide +kernel) (by decide +kernel)
set_option maxRecDepth 20000 in
theorem gX10_keep_X3_store : GoodIn wsX10_keep (wsV RX10 309 RX3 yX3_store wsX3_store) := goodIn_app (goodIn_of _ (by decide +kernel)) ggX10_keep_X3_store
set_option maxRecDepth 20000 in
theorem ggX10_keep_X5_clear : GoodIn wsX10_keep wsX5_clear := goodIn_r _ [35, 36, 37, 64, 65, 66] (by decide +kernel) (by decide +kernel)
set_option maxRecDepth 20000 in
theorem gX10_keep_X5_clear : GoodIn wsX10_keep (wsV RX10 117 RX5 yX5_clear wsX5_clear) := goodIn_app (goodIn_of _ (by decide +kernel)) ggX10_keep_X5_clear
theorem dX10_keep_0 : decode cX10_keep 0 = .ok (.iload_n 1, 1) := by decide +kernel
theorem dX10_keep_1 : decode cX10_keep 1 = .ok (.ifCond .lt 8, 3) := by decide +kernel
theorem dX10_keep_4 : decode cX10_keep 4 = .ok (.iload_n 1, 1) := by decide +kernel
theorem dX10_keep_5 : decode cX10_keep 5 = .ok (.iconst 2, 1) := by decide +kernel
theorem dX10_keep_6 : decode cX10_keep 6 = .ok (.if_icmp .lt 6, 3) := by decide +kernel
theorem dX10_keep_9 : decode cX10_keep 9 = .ok (.ldc 167, 2) := by decide +kernel
theorem dX10_keep_11 : decode cX10_keep 11 = .ok (.ireturn, 1) := by decide +kernel
theorem dX10_keep_12 : decode cX10_keep 12 = .ok (.aload_n 0, 1) := by decide +kernel
theorem dX10_keep_13 : decode cX10_keep 13 = .ok (.getfield 44, 3) := by decide +kernel
theorem dX10_keep_16 : decode cX10_keep 16 = .ok (.iload_n 1, 1) := by decide +kernel
theorem dX10_keep_17 : decode cX10_keep 17 = .ok (.aload_n 0, 1) := by decide +kernel
theorem dX10_keep_18 : decode cX10_keep 18 = .ok (.getfield 30, 3) := by decide +kernel
theorem dX10_keep_21 : decode cX10_keep 21 = .ok (.aload_n 0, 1) := by decide +kernel
theorem dX10_keep_22 : decode cX10_keep 22 = .ok (.getfield 93, 3) := by decide +kernel
theorem dX10_keep_25 : decode cX10_keep 25 = .ok (.invokevirtual 309, 3) := by decide +kernel
theorem dX10_keep_28 : decode cX10_keep 28 = .ok (.aload_n 0, 1) := by decide +kernel
theorem dX10_keep_29 : decode cX10_keep 29 = .ok (.getfield 37, 3) := by decide +kernel
theorem dX10_keep_32 : decode cX10_keep 32 = .ok (.invokevirtual 117, 3) := by decide +kernel
theorem dX10_keep_35 : decode cX10_keep 35 = .ok (.iconst 1, 1) := by decide +kernel
theorem dX10_keep_36 : decode cX10_keep 36 = .ok (.ireturn, 1) := by decide +kernel
set_option maxRecDepth 20000 in
theorem ggX10_goBack_X3_has : GoodIn wsX10_goBack wsX3_has := goodIn_r _ [11, 12, 13, 14, 15, 61, 62, 63] (by decide +kernel) (by decide +kernel)
set_option maxRecDepth 20000 in
theorem gX10_goBack_X3_has : GoodIn wsX10_goBack (wsV RX10 313 RX3 yX3_has wsX3_has) := goodIn_app (goodIn_of _ (by decide +kernel)) ggX10_goBack_X3_has
set_option maxRecDepth 20000 in
theorem ggX10_goBack_X3_restore : GoodIn wsX10_goBack wsX3_restore := goodIn_r _ [19, 20, 21, 22, 23, 24, 25, 26, 27, 28, 29, 30, 31, 32, 33, 34, 35, 36, 37, 38, 61, 62, 63, 64, 65, 66, 67, 68, 69, 70, 71] (by decide +kernel) (by decide +kernel)
set_option maxRecDepth 20000 in
theorem gX10_goBack_X3_restore : GoodIn wsX10_goBack (wsV RX10 316 RX3 yX3_restore wsX3_restore) := goodIn_app (goodIn_of _ (by decide +kernel)) ggX10_goBack_X3_restore
set_option maxRecDepth 20000 in
theorem ggX10_goBack_X5_clear : GoodIn wsX10_goBack wsX5_clear := goodIn_r _ [43, 44, 45, 72, 73, 74] (by decide +kernel) (by decide +kernel)
set_option maxRecDepth 20000 in
theorem gX10_goBack_X5_clear : GoodIn wsX10_goBack (wsV RX10 117 RX5 yX5_clear wsX5_clear) := goodIn_app (goodIn_of _ (by decide +kernel)) ggX10_goBack_X5_clear
theorem dX10_goBack_0 : decode cX10_goBack 0 = .ok (.iload_n 1, 1) := by decide +kernel
theorem dX10_goBack_1 : decode cX10_goBack 1 = .ok (.ifCond .lt 8, 3) := by decide +kernel
theorem dX10_goBack_4 : decode cX10_goBack 4 = .ok (.iload_n 1, 1) := by decide +kernel
theorem dX10_goBack_5 : decode cX10_goBack 5 = .ok (.iconst 2, 1) := by decide +kernel
theorem dX10_goBack_6 : decode cX10_goBack 6 = .ok (.if_icmp .lt 6, 3) := by decide +kernel
theorem dX10_goBack_9 : decode cX10_goBack 9 = .ok (.ldc 167, 2) := by decide +kernel
theorem dX10_goBack_11 : decode cX10_goBack 11 = .ok (.ireturn, 1) := by decide +kernel
theorem dX10_goBack_12 : decode cX10_goBack 12 = .ok (.aload_n 0, 1) := by decide +kernel
theorem dX10_goBack_13 : decode cX10_goBack 13 = .ok (.getfield 44, 3) := by decide +kernel
theorem dX10_goBack_16 : decode cX10_goBack 16 = .ok (.iload_n 1, 1) := by decide +kernel
theorem dX10_goBack_17 : decode cX10_goBack 17 = .ok (.invokevirtual 313, 3) := by decide +kernel
theorem dX10_goBack_20 : decode cX10_goBack 20 = .ok (.ifCond .ne 6, 3) := by decide +kernel
theorem dX10_goBack_23 : decode cX10_goBack 23 = .ok (.ldc 206, 2) := by decide +kernel
theorem dX10_goBack_25 : decode cX10_goBack 25 = .ok (.ireturn, 1) := by decide +kernel
theorem dX10_goBack_26 : decode cX10_goBack 26 = .ok (.aload_n 0, 1) := by decide +kernel
theorem dX10_goBack_27 : decode cX10_goBack 27 = .ok (.aload_n 0, 1) := by decide +kernel
theorem dX10_goBack_28 : decode cX10_goBack 28 = .ok (.getfield 44, 3) := by decide +kernel
theorem dX10_goBack_31 : decode cX10_goBack 31 = .ok (.iload_n 1, 1) := by decide +kernel
theorem dX10_goBack_32 : decode cX10_goBack 32 = .ok (.aload_n 0, 1) := by decide +kernel
theorem dX10_goBack_33 : decode cX10_goBack 33 = .ok (.getfield 30, 3) := by decide +kernel
theorem dX10_goBack_36 : decode cX10_goBack 36 = .ok (.invokevirtual 316, 3) := by decide +kernel
theorem dX10_goBack_39 : decode cX10_goBack 39 = .ok (.putfield 93, 3) := by decide +kernel
theorem dX10_goBack_42 : decode cX10_goBack 42 = .ok (.aload_n 0, 1) := by decide +kernel
theorem dX10_goBack_43 : decode cX10_goBack 43 = .ok (.getfield 37, 3) := by decide +kernel
theorem dX10_goBack_46 : decode cX10_goBack 46 = .ok (.invokevirtual 117, 3) := by decide +kernel
theorem dX10_goBack_49 : decode cX10_goBack 49 = .ok (.iconst 1, 1) := by decide +kernel
theorem dX10_goBack_50 : decode cX10_goBack 50 = .ok (.ireturn, 1) := by decide +kernel
theorem dX10_isPerson_0 : decode cX10_isPerson 0 = .ok (.iload_n 1, 1) := by decide +kernel
theorem dX10_isPerson_1 : decode cX10_isPerson 1 = .ok (.ifCond .lt 18, 3) := by decide +kernel
theorem dX10_isPerson_4 : decode cX10_isPerson 4 = .ok (.iload_n 1, 1) := by decide +kernel
theorem dX10_isPerson_5 : decode cX10_isPerson 5 = .ok (.aload_n 0, 1) := by decide +kernel
theorem dX10_isPerson_6 : decode cX10_isPerson 6 = .ok (.getfield 23, 3) := by decide +kernel
theorem dX10_isPerson_9 : decode cX10_isPerson 9 = .ok (.getfield 121, 3) := by decide +kernel
theorem dX10_isPerson_12 : decode cX10_isPerson 12 = .ok (.if_icmp .ge 7, 3) := by decide +kernel
theorem dX10_isPerson_15 : decode cX10_isPerson 15 = .ok (.iconst 1, 1) := by decide +kernel
theorem dX10_isPerson_16 : decode cX10_isPerson 16 = .ok (.goto 4, 3) := by decide +kernel
theorem dX10_isPerson_19 : decode cX10_isPerson 19 = .ok (.iconst 0, 1) := by decide +kernel
theorem dX10_isPerson_20 : decode cX10_isPerson 20 = .ok (.ireturn, 1) := by decide +kernel
set_option maxRecDepth 20000 in
theorem ggX10_isPersonOrNone_X10_isPerson : GoodIn wsX10_isPersonOrNone wsX10_isPerson := goodIn_r _ [5, 6, 7, 8, 9, 10, 11, 12, 13, 14, 15, 16, 17, 18, 19, 20, 21, 22, 23, 24, 25, 26, 27, 28] (by decide +kernel) (by decide +kernel)
set_option maxRecDepth 20000 in
theorem gX10_isPersonOrNone_X10_isPerson : GoodIn wsX10_isPersonOrNone (wsV RX10 163 RX10 yX10_isPerson wsX10_isPerson) := goodIn_app (goodIn_of _ (by decide +kernel)) ggX10_isPersonOrNone_X10_isPerson
theorem dX10_isPersonOrNone_0 : decode cX10_isPersonOrNone 0 = .ok (.iload_n 1, 1) := by decide +kernel
theorem dX10_isPersonOrNone_1 : decode cX10_isPersonOrNone 1 = .ok (.iconst (-1), 1) := by decide +kernel
theorem dX10_isPersonOrNone_2 : decode cX10_isPersonOrNone 2 = .ok (.if_icmp .eq 11, 3) := by decide +kernel
theorem dX10_isPersonOrNone_5 : decode cX10_isPersonOrNone 5 = .ok (.aload_n 0, 1) := by decide +kernel
theorem dX10_isPersonOrNone_6 : decode cX10_isPersonOrNone 6 = .ok (.iload_n 1, 1) := by decide +kernel
theorem dX10_isPersonOrNone_7 : decode cX10_isPersonOrNone 7 = .ok (.invokevirtual 163, 3) := by decide +kernel
theorem dX10_isPersonOrNone_10 : decode cX10_isPersonOrNone 10 = .ok (.ifCond .eq 7, 3) := by decide +kernel
theorem dX10_isPersonOrNone_13 : decode cX10_isPersonOrNone 13 = .ok (.iconst 1, 1) := by decide +kernel
theorem dX10_isPersonOrNone_14 : decode cX10_isPersonOrNone 14 = .ok (.goto 4, 3) := by decide +kernel
theorem dX10_isPersonOrNone_17 : decode cX10_isPersonOrNone 17 = .ok (.iconst 0, 1) := by decide +kernel
theorem dX10_isPersonOrNone_18 : decode cX10_isPersonOrNone 18 = .ok (.ireturn, 1) := by decide +kernel
theorem dX10_isTicket_0 : decode cX10_isTicket 0 = .ok (.iload_n 1, 1) := by decide +kernel
theorem dX10_isTicket_1 : decode cX10_isTicket 1 = .ok (.ifCond .lt 18, 3) := by decide +kernel
theorem dX10_isTicket_4 : decode cX10_isTicket 4 = .ok (.iload_n 1, 1) := by decide +kernel
theorem dX10_isTicket_5 : decode cX10_isTicket 5 = .ok (.aload_n 0, 1) := by decide +kernel
theorem dX10_isTicket_6 : decode cX10_isTicket 6 = .ok (.getfield 23, 3) := by decide +kernel
theorem dX10_isTicket_9 : decode cX10_isTicket 9 = .ok (.getfield 124, 3) := by decide +kernel
theorem dX10_isTicket_12 : decode cX10_isTicket 12 = .ok (.if_icmp .ge 7, 3) := by decide +kernel
theorem dX10_isTicket_15 : decode cX10_isTicket 15 = .ok (.iconst 1, 1) := by decide +kernel
theorem dX10_isTicket_16 : decode cX10_isTicket 16 = .ok (.goto 4, 3) := by decide +kernel
theorem dX10_isTicket_19 : decode cX10_isTicket 19 = .ok (.iconst 0, 1) := by decide +kernel
theorem dX10_isTicket_20 : decode cX10_isTicket 20 = .ok (.ireturn, 1) := by decide +kernel
theorem dX10_isRight_0 : decode cX10_isRight 0 = .ok (.iload_n 0, 1) := by decide +kernel
theorem dX10_isRight_1 : decode cX10_isRight 1 = .ok (.ifCond .lt 12, 3) := by decide +kernel
theorem dX10_isRight_4 : decode cX10_isRight 4 = .ok (.iload_n 0, 1) := by decide +kernel
theorem dX10_isRight_5 : decode cX10_isRight 5 = .ok (.iconst 4, 1) := by decide +kernel
theorem dX10_isRight_6 : decode cX10_isRight 6 = .ok (.if_icmp .ge 7, 3) := by decide +kernel
theorem dX10_isRight_9 : decode cX10_isRight 9 = .ok (.iconst 1, 1) := by decide +kernel
theorem dX10_isRight_10 : decode cX10_isRight 10 = .ok (.goto 4, 3) := by decide +kernel
theorem dX10_isRight_13 : decode cX10_isRight 13 = .ok (.iconst 0, 1) := by decide +kernel
theorem dX10_isRight_14 : decode cX10_isRight 14 = .ok (.ireturn, 1) := by decide +kernel
theorem dX10_holds_0 : decode cX10_holds 0 = .ok (.iload_n 0, 1) := by decide +kernel
theorem dX10_holds_1 : decode cX10_holds 1 = .ok (.iload_n 1, 1) := by decide +kernel
theorem dX10_holds_2 : decode cX10_holds 2 = .ok (.ishr, 1) := by decide +kernel
theorem dX10_holds_3 : decode cX10_holds 3 = .ok (.iconst 1, 1) := by decide +kernel
theorem dX10_holds_4 : decode cX10_holds 4 = .ok (.iand, 1) := by decide +kernel
theorem dX10_holds_5 : decode cX10_holds 5 = .ok (.ifCond .eq 7, 3) := by decide +kernel
theorem dX10_holds_8 : decode cX10_holds 8 = .ok (.iconst 1, 1) := by decide +kernel
theorem dX10_holds_9 : decode cX10_holds 9 = .ok (.goto 4, 3) := by decide +kernel
theorem dX10_holds_12 : decode cX10_holds 12 = .ok (.iconst 0, 1) := by decide +kernel
theorem dX10_holds_13 : decode cX10_holds 13 = .ok (.ireturn, 1) := by decide +kernel
theorem dX10_older_0 : decode cX10_older 0 = .ok (.sipush 999, 3) := by decide +kernel
theorem dX10_older_3 : decode cX10_older 3 = .ok (.iload_n 0, 1) := by decide +kernel
theorem dX10_older_4 : decode cX10_older 4 = .ok (.iconst 1, 1) := by decide +kernel
theorem dX10_older_5 : decode cX10_older 5 = .ok (.iadd, 1) := by decide +kernel
theorem dX10_older_6 : decode cX10_older 6 = .ok (.invokestatic 220, 3) := by decide +kernel
theorem dX10_older_9 : decode cX10_older 9 = .ok (.ireturn, 1) := by decide +kernel
theorem dX10_nextSeed_0 : decode cX10_nextSeed 0 = .ok (.iload_n 0, 1) := by decide +kernel
theorem dX10_nextSeed_1 : decode cX10_nextSeed 1 = .ok (.i2l, 1) := by decide +kernel
theorem dX10_nextSeed_2 : decode cX10_nextSeed 2 = .ok (.ldc2_w 320, 3) := by decide +kernel
theorem dX10_nextSeed_5 : decode cX10_nextSeed 5 = .ok (.lmul, 1) := by decide +kernel
theorem dX10_nextSeed_6 : decode cX10_nextSeed 6 = .ok (.ldc2_w 322, 3) := by decide +kernel
theorem dX10_nextSeed_9 : decode cX10_nextSeed 9 = .ok (.ladd, 1) := by decide +kernel
theorem dX10_nextSeed_10 : decode cX10_nextSeed 10 = .ok (.ldc2_w 324, 3) := by decide +kernel
theorem dX10_nextSeed_13 : decode cX10_nextSeed 13 = .ok (.land, 1) := by decide +kernel
theorem dX10_nextSeed_14 : decode cX10_nextSeed 14 = .ok (.l2i, 1) := by decide +kernel
theorem dX10_nextSeed_15 : decode cX10_nextSeed 15 = .ok (.ireturn, 1) := by decide +kernel
theorem dX10_lotOf_0 : decode cX10_lotOf 0 = .ok (.iload_n 1, 1) := by decide +kernel
theorem dX10_lotOf_1 : decode cX10_lotOf 1 = .ok (.iconst 1, 1) := by decide +kernel
theorem dX10_lotOf_2 : decode cX10_lotOf 2 = .ok (.if_icmp .ge 7, 3) := by decide +kernel
theorem dX10_lotOf_5 : decode cX10_lotOf 5 = .ok (.iconst 0, 1) := by decide +kernel
theorem dX10_lotOf_6 : decode cX10_lotOf 6 = .ok (.goto 10, 3) := by decide +kernel
theorem dX10_lotOf_9 : decode cX10_lotOf 9 = .ok (.iload_n 0, 1) := by decide +kernel
theorem dX10_lotOf_10 : decode cX10_lotOf 10 = .ok (.ldc_w 326, 3) := by decide +kernel
theorem dX10_lotOf_13 : decode cX10_lotOf 13 = .ok (.idiv, 1) := by decide +kernel
theorem dX10_lotOf_14 : decode cX10_lotOf 14 = .ok (.iload_n 1, 1) := by decide +kernel
theorem dX10_lotOf_15 : decode cX10_lotOf 15 = .ok (.irem, 1) := by decide +kernel
theorem dX10_lotOf_16 : decode cX10_lotOf 16 = .ok (.ireturn, 1) := by decide +kernel
theorem dX10_spreadOf_0 : decode cX10_spreadOf 0 = .ok (.iload_n 1, 1) := by decide +kernel
theorem dX10_spreadOf_1 : decode cX10_spreadOf 1 = .ok (.iconst 1, 1) := by decide +kernel
theorem dX10_spreadOf_2 : decode cX10_spreadOf 2 = .ok (.if_icmp .ge 5, 3) := by decide +kernel
theorem dX10_spreadOf_5 : decode cX10_spreadOf 5 = .ok (.iconst 0, 1) := by decide +kernel
theorem dX10_spreadOf_6 : decode cX10_spreadOf 6 = .ok (.ireturn, 1) := by decide +kernel
theorem dX10_spreadOf_7 : decode cX10_spreadOf 7 = .ok (.aload_n 0, 1) := by decide +kernel
theorem dX10_spreadOf_8 : decode cX10_spreadOf 8 = .ok (.iconst 0, 1) := by decide +kernel
theorem dX10_spreadOf_9 : decode cX10_spreadOf 9 = .ok (.iaload, 1) := by decide +kernel
theorem dX10_spreadOf_10 : decode cX10_spreadOf 10 = .ok (.istore_n 2, 1) := by decide +kernel
theorem dX10_spreadOf_11 : decode cX10_spreadOf 11 = .ok (.aload_n 0, 1) := by decide +kernel
theorem dX10_spreadOf_12 : decode cX10_spreadOf 12 = .ok (.iconst 0, 1) := by decide +kernel
theorem dX10_spreadOf_13 : decode cX10_spreadOf 13 = .ok (.iaload, 1) := by decide +kernel
theorem dX10_spreadOf_14 : decode cX10_spreadOf 14 = .ok (.istore_n 3, 1) := by decide +kernel
theorem dX10_spreadOf_15 : decode cX10_spreadOf 15 = .ok (.iconst 1, 1) := by decide +kernel
theorem dX10_spreadOf_16 : decode cX10_spreadOf 16 = .ok (.istore 4, 2) := by decide +kernel
theorem dX10_spreadOf_18 : decode cX10_spreadOf 18 = .ok (.iload 4, 2) := by decide +kernel
theorem dX10_spreadOf_20 : decode cX10_spreadOf 20 = .ok (.iload_n 1, 1) := by decide +kernel
theorem dX10_spreadOf_21 : decode cX10_spreadOf 21 = .ok (.if_icmp .ge 27, 3) := by decide +kernel
theorem dX10_spreadOf_24 : decode cX10_spreadOf 24 = .ok (.iload_n 2, 1) := by decide +kernel
theorem dX10_spreadOf_25 : decode cX10_spreadOf 25 = .ok (.aload_n 0, 1) := by decide +kernel
theorem dX10_spreadOf_26 : decode cX10_spreadOf 26 = .ok (.iload 4, 2) := by decide +kernel
theorem dX10_spreadOf_28 : decode cX10_spreadOf 28 = .ok (.iaload, 1) := by decide +kernel
theorem dX10_spreadOf_29 : decode cX10_spreadOf 29 = .ok (.invokestatic 220, 3) := by decide +kernel
theorem dX10_spreadOf_32 : decode cX10_spreadOf 32 = .ok (.istore_n 2, 1) := by decide +kernel
theorem dX10_spreadOf_33 : decode cX10_spreadOf 33 = .ok (.iload_n 3, 1) := by decide +kernel
theorem dX10_spreadOf_34 : decode cX10_spreadOf 34 = .ok (.aload_n 0, 1) := by decide +kernel
theorem dX10_spreadOf_35 : decode cX10_spreadOf 35 = .ok (.iload 4, 2) := by decide +kernel
theorem dX10_spreadOf_37 : decode cX10_spreadOf 37 = .ok (.iaload, 1) := by decide +kernel
theorem dX10_spreadOf_38 : decode cX10_spreadOf 38 = .ok (.invokestatic 327, 3) := by decide +kernel
theorem dX10_spreadOf_41 : decode cX10_spreadOf 41 = .ok (.istore_n 3, 1) := by decide +kernel
theorem dX10_spreadOf_42 : decode cX10_spreadOf 42 = .ok (.iinc 4 1, 3) := by decide +kernel
theorem dX10_spreadOf_45 : decode cX10_spreadOf 45 = .ok (.goto (-27), 3) := by decide +kernel
theorem dX10_spreadOf_48 : decode cX10_spreadOf 48 = .ok (.iload_n 3, 1) := by decide +kernel
theorem dX10_spreadOf_49 : decode cX10_spreadOf 49 = .ok (.iload_n 2, 1) := by decide +kernel
theorem dX10_spreadOf_50 : decode cX10_spreadOf 50 = .ok (.isub, 1) := by decide +kernel
theorem dX10_spreadOf_51 : decode cX10_spreadOf 51 = .ok (.ireturn, 1) := by decide +kernel
theorem dX10_forgetSeen_0 : decode cX10_forgetSeen 0 = .ok (.aload_n 0, 1) := by decide +kernel
theorem dX10_forgetSeen_1 : decode cX10_forgetSeen 1 = .ok (.getfield 65, 3) := by decide +kernel
theorem dX10_forgetSeen_4 : decode cX10_forgetSeen 4 = .ok (.iconst 0, 1) := by decide +kernel
theorem dX10_forgetSeen_5 : decode cX10_forgetSeen 5 = .ok (.putfield 153, 3) := by decide +kernel
theorem dX10_forgetSeen_8 : decode cX10_forgetSeen 8 = .ok (.aload_n 0, 1) := by decide +kernel
theorem dX10_forgetSeen_9 : decode cX10_forgetSeen 9 = .ok (.getfield 72, 3) := by decide +kernel
theorem dX10_forgetSeen_12 : decode cX10_forgetSeen 12 = .ok (.iconst 0, 1) := by decide +kernel
theorem dX10_forgetSeen_13 : decode cX10_forgetSeen 13 = .ok (.putfield 156, 3) := by decide +kernel
theorem dX10_forgetSeen_16 : decode cX10_forgetSeen 16 = .ok (.aload_n 0, 1) := by decide +kernel
theorem dX10_forgetSeen_17 : decode cX10_forgetSeen 17 = .ok (.getfield 79, 3) := by decide +kernel
theorem dX10_forgetSeen_20 : decode cX10_forgetSeen 20 = .ok (.iconst 0, 1) := by decide +kernel
theorem dX10_forgetSeen_21 : decode cX10_forgetSeen 21 = .ok (.putfield 157, 3) := by decide +kernel
theorem dX10_forgetSeen_24 : decode cX10_forgetSeen 24 = .ok (.return_, 1) := by decide +kernel
set_option maxRecDepth 20000 in
theorem ggX10_drawTicket_X5_add : GoodIn wsX10_drawTicket wsX5_add := goodIn_r _ [8, 9, 10, 11, 12, 13, 14, 15, 16, 17, 18, 19, 20, 21, 22, 23, 24, 25, 26, 27, 28, 89, 90, 91, 92, 93, 94, 95, 96, 97, 98, 99] (by decide +kernel) (by decide +kernel)
set_option maxRecDepth 20000 in
theorem gX10_drawTicket_X5_add : GoodIn wsX10_drawTicket (wsV RX10 330 RX5 yX5_add wsX5_add) := goodIn_app (goodIn_of _ (by decide +kernel)) ggX10_drawTicket_X5_add
set_option maxRecDepth 20000 in
theorem ggX10_drawTicket_X4_whoAges : GoodIn wsX10_drawTicket wsX4_whoAges := goodIn_r _ [32, 27, 26, 92, 93, 94, 95, 96, 97, 98, 99] (by decide +kernel) (by decide +kernel)
set_option maxRecDepth 20000 in
theorem gX10_drawTicket_X4_whoAges : GoodIn wsX10_drawTicket (wsV RX10 332 RX4 yX4_whoAges wsX4_whoAges) := goodIn_app (goodIn_of _ (by decide +kernel)) ggX10_drawTicket_X4_whoAges
set_option maxRecDepth 20000 in
theorem ggX10_drawTicket_X4_celebrate : GoodIn wsX10_drawTicket wsX4_celebrate := goodIn_r _ [36, 20, 25, 37, 38, 39, 40, 41, 42, 43, 44, 92, 93, 94, 95, 96, 97, 98, 99] (by decide +kernel) (by decide +kernel)
set_option maxRecDepth 20000 in
theorem gX10_drawTicket_X4_celebrate : GoodIn wsX10_drawTicket (wsV RX10 335 RX4 yX4_celebrate wsX4_celebrate) := goodIn_app (goodIn_of _ (by decide +kernel)) ggX10_drawTicket_X4_celebrate
set_option maxRecDepth 20000 in
theorem ggX10_drawTicket_X4_passDraw : GoodIn wsX10_drawTicket wsX4_passDraw := goodIn_r _ [48, 17, 19, 18, 49, 50, 51, 52, 53, 54, 55, 56, 57, 58, 59, 60, 61, 62, 63, 64, 65, 66, 67, 68, 69, 70, 71, 72, 73, 92, 93, 94, 95, 96, 97, 98, 99, 100, 101, 102, 103, 104, 105] (by decide +kernel) (by decide +kernel)
set_option maxRecDepth 20000 in
theorem gX10_drawTicket_X4_passDraw : GoodIn wsX10_drawTicket (wsV RX10 339 RX4 yX4_passDraw wsX4_passDraw) := goodIn_app (goodIn_of _ (by decide +kernel)) ggX10_drawTicket_X4_passDraw
theorem dX10_drawTicket_0 : decode cX10_drawTicket 0 = .ok (.aload_n 0, 1) := by decide +kernel
theorem dX10_drawTicket_1 : decode cX10_drawTicket 1 = .ok (.getfield 37, 3) := by decide +kernel
theorem dX10_drawTicket_4 : decode cX10_drawTicket 4 = .ok (.aload_n 0, 1) := by decide +kernel
theorem dX10_drawTicket_5 : decode cX10_drawTicket 5 = .ok (.getfield 30, 3) := by decide +kernel
theorem dX10_drawTicket_8 : decode cX10_drawTicket 8 = .ok (.invokevirtual 330, 3) := by decide +kernel
theorem dX10_drawTicket_11 : decode cX10_drawTicket 11 = .ok (.aload_n 0, 1) := by decide +kernel
theorem dX10_drawTicket_12 : decode cX10_drawTicket 12 = .ok (.getfield 30, 3) := by decide +kernel
theorem dX10_drawTicket_15 : decode cX10_drawTicket 15 = .ok (.iload_n 1, 1) := by decide +kernel
theorem dX10_drawTicket_16 : decode cX10_drawTicket 16 = .ok (.invokevirtual 332, 3) := by decide +kernel
theorem dX10_drawTicket_19 : decode cX10_drawTicket 19 = .ok (.istore_n 2, 1) := by decide +kernel
theorem dX10_drawTicket_20 : decode cX10_drawTicket 20 = .ok (.aload_n 0, 1) := by decide +kernel
theorem dX10_drawTicket_21 : decode cX10_drawTicket 21 = .ok (.getfield 30, 3) := by decide +kernel
theorem dX10_drawTicket_24 : decode cX10_drawTicket 24 = .ok (.iload_n 2, 1) := by decide +kernel
theorem dX10_drawTicket_25 : decode cX10_drawTicket 25 = .ok (.invokevirtual 335, 3) := by decide +kernel
theorem dX10_drawTicket_28 : decode cX10_drawTicket 28 = .ok (.aload_n 0, 1) := by decide +kernel
theorem dX10_drawTicket_29 : decode cX10_drawTicket 29 = .ok (.getfield 30, 3) := by decide +kernel
theorem dX10_drawTicket_32 : decode cX10_drawTicket 32 = .ok (.aload_n 0, 1) := by decide +kernel
theorem dX10_drawTicket_33 : decode cX10_drawTicket 33 = .ok (.getfield 23, 3) := by decide +kernel
theorem dX10_drawTicket_36 : decode cX10_drawTicket 36 = .ok (.iload_n 1, 1) := by decide +kernel
theorem dX10_drawTicket_37 : decode cX10_drawTicket 37 = .ok (.invokevirtual 339, 3) := by decide +kernel
theorem dX10_drawTicket_40 : decode cX10_drawTicket 40 = .ok (.iload_n 2, 1) := by decide +kernel
theorem dX10_drawTicket_41 : decode cX10_drawTicket 41 = .ok (.ireturn, 1) := by decide +kernel
set_option maxRecDepth 20000 in
theorem ggX10_cheapest_X2_begin : GoodIn wsX10_cheapest wsX2_begin := goodIn_r _ [13, 14, 15, 16, 17, 18, 19, 20, 21, 22, 23, 24, 25, 26, 27, 28, 29, 30, 12, 31, 32, 33, 34, 35, 36, 37, 38, 39, 40, 41, 42, 43, 44, 45, 46, 47, 48, 49, 50, 51, 52, 53, 54, 55, 122, 123, 124, 125, 126, 127, 116, 117, 118, 119, 120, 121] (by decide +kernel) (by decide +kernel)
set_option maxRecDepth 20000 in
theorem gX10_cheapest_X2_begin : GoodIn wsX10_cheapest (wsV RX10 232 RX2 yX2_begin wsX2_begin) := goodIn_app (goodIn_of _ (by decide +kernel)) ggX10_cheapest_X2_begin
set_option maxRecDepth 20000 in
theorem ggX10_cheapest_X4_agingFor : GoodIn wsX10_cheapest wsX4_agingFor := goodIn_r _ [60, 61, 62, 63, 59, 64, 65, 66, 108, 109, 110, 111, 112, 113, 114, 115] (by decide +kernel) (by decide +kernel)
set_option maxRecDepth 20000 in
theorem gX10_cheapest_X4_agingFor : GoodIn wsX10_cheapest (wsV RX10 178 RX4 yX4_agingFor wsX4_agingFor) := goodIn_app (goodIn_of _ (by decide +kernel)) ggX10_cheapest_X4_agingFor
set_option maxRecDepth 20000 in
theorem ggX10_cheapest_X4_forSaleTo : GoodIn wsX10_cheapest wsX4_forSaleTo := goodIn_r _ [70, 66, 65, 108, 109, 110, 111, 112, 113, 114, 115] (by decide +kernel) (by decide +kernel)
set_option maxRecDepth 20000 in
theorem gX10_cheapest_X4_forSaleTo : GoodIn wsX10_cheapest (wsV RX10 343 RX4 yX4_forSaleTo wsX4_forSaleTo) := goodIn_app (goodIn_of _ (by decide +kernel)) ggX10_cheapest_X4_forSaleTo
set_option maxRecDepth 20000 in
theorem ggX10_cheapest_X4_priceOf : GoodIn wsX10_cheapest wsX4_priceOf := goodIn_r _ [74, 75, 53, 54, 55, 108, 109, 110, 111, 112, 113, 114, 115] (by decide +kernel) (by decide +kernel)
set_option maxRecDepth 20000 in
theorem gX10_cheapest_X4_priceOf : GoodIn wsX10_cheapest (wsV RX10 252 RX4 yX4_priceOf wsX4_priceOf) := goodIn_app (goodIn_of _ (by decide +kernel)) ggX10_cheapest_X4_priceOf
set_option maxRecDepth 20000 in
theorem ggX10_cheapest_J6_bitCount_0f7a4 : GoodIn wsX10_cheapest wsJ6_bitCount_0f7a4 := goodIn_r _ [24, 25, 26, 27] (by decide +kernel) (by decide +kernel)
set_option maxRecDepth 20000 in
theorem gX10_cheapest_J6_bitCount_0f7a4 : GoodIn wsX10_cheapest (va_wsS RX10 304 yJ6_bitCount_0f7a4 wsJ6_bitCount_0f7a4) := goodIn_app (goodIn_of _ (by decide +kernel)) ggX10_cheapest_J6_bitCount_0f7a4
set_option maxRecDepth 20000 in
theorem ggX10_cheapest_X2_atLeast : GoodIn wsX10_cheapest wsX2_atLeast := goodIn_r _ [80, 15, 81, 82, 83, 12, 84, 85, 34, 14, 20, 86, 87, 18, 88, 36, 37, 38, 39, 46, 47, 48, 49, 50, 51, 52, 53, 54, 55, 89, 90, 91, 92, 33, 35, 32, 21, 22, 23, 24, 25, 26, 27, 116, 117, 118, 119, 120, 121, 122, 123, 124, 125, 126, 127] (by decide +kernel) (by decide +kernel)
set_option maxRecDepth 20000 in
theorem gX10_cheapest_X2_atLeast : GoodIn wsX10_cheapest (wsV RX10 236 RX2 yX2_atLeast wsX2_atLeast) := goodIn_app (goodIn_of _ (by decide +kernel)) ggX10_cheapest_X2_atLeast
theorem dX10_cheapest_0 : decode cX10_cheapest 0 = .ok (.iload_n 2, 1) := by decide +kernel
theorem dX10_cheapest_1 : decode cX10_cheapest 1 = .ok (.ifCond .gt 5, 3) := by decide +kernel
theorem dX10_cheapest_4 : decode cX10_cheapest 4 = .ok (.iconst 0, 1) := by decide +kernel
theorem dX10_cheapest_5 : decode cX10_cheapest 5 = .ok (.ireturn, 1) := by decide +kernel
theorem dX10_cheapest_6 : decode cX10_cheapest 6 = .ok (.aload_n 0, 1) := by decide +kernel
theorem dX10_cheapest_7 : decode cX10_cheapest 7 = .ok (.getfield 51, 3) := by decide +kernel
theorem dX10_cheapest_10 : decode cX10_cheapest 10 = .ok (.aload_n 0, 1) := by decide +kernel
theorem dX10_cheapest_11 : decode cX10_cheapest 11 = .ok (.getfield 23, 3) := by decide +kernel
theorem dX10_cheapest_14 : decode cX10_cheapest 14 = .ok (.aload_n 0, 1) := by decide +kernel
theorem dX10_cheapest_15 : decode cX10_cheapest 15 = .ok (.getfield 30, 3) := by decide +kernel
theorem dX10_cheapest_18 : decode cX10_cheapest 18 = .ok (.getfield 140, 3) := by decide +kernel
theorem dX10_cheapest_21 : decode cX10_cheapest 21 = .ok (.aload_n 0, 1) := by decide +kernel
theorem dX10_cheapest_22 : decode cX10_cheapest 22 = .ok (.getfield 23, 3) := by decide +kernel
theorem dX10_cheapest_25 : decode cX10_cheapest 25 = .ok (.getfield 133, 3) := by decide +kernel
theorem dX10_cheapest_28 : decode cX10_cheapest 28 = .ok (.aload_n 0, 1) := by decide +kernel
theorem dX10_cheapest_29 : decode cX10_cheapest 29 = .ok (.getfield 30, 3) := by decide +kernel
theorem dX10_cheapest_32 : decode cX10_cheapest 32 = .ok (.getfield 130, 3) := by decide +kernel
theorem dX10_cheapest_35 : decode cX10_cheapest 35 = .ok (.isub, 1) := by decide +kernel
theorem dX10_cheapest_36 : decode cX10_cheapest 36 = .ok (.invokevirtual 232, 3) := by decide +kernel
theorem dX10_cheapest_39 : decode cX10_cheapest 39 = .ok (.aload_n 0, 1) := by decide +kernel
theorem dX10_cheapest_40 : decode cX10_cheapest 40 = .ok (.getfield 30, 3) := by decide +kernel
theorem dX10_cheapest_43 : decode cX10_cheapest 43 = .ok (.iload_n 1, 1) := by decide +kernel
theorem dX10_cheapest_44 : decode cX10_cheapest 44 = .ok (.aload_n 0, 1) := by decide +kernel
theorem dX10_cheapest_45 : decode cX10_cheapest 45 = .ok (.getfield 23, 3) := by decide +kernel
theorem dX10_cheapest_48 : decode cX10_cheapest 48 = .ok (.getfield 124, 3) := by decide +kernel
theorem dX10_cheapest_51 : decode cX10_cheapest 51 = .ok (.invokevirtual 178, 3) := by decide +kernel
theorem dX10_cheapest_54 : decode cX10_cheapest 54 = .ok (.istore 5, 2) := by decide +kernel
theorem dX10_cheapest_56 : decode cX10_cheapest 56 = .ok (.aload_n 0, 1) := by decide +kernel
theorem dX10_cheapest_57 : decode cX10_cheapest 57 = .ok (.getfield 30, 3) := by decide +kernel
theorem dX10_cheapest_60 : decode cX10_cheapest 60 = .ok (.iload_n 1, 1) := by decide +kernel
theorem dX10_cheapest_61 : decode cX10_cheapest 61 = .ok (.aload_n 0, 1) := by decide +kernel
theorem dX10_cheapest_62 : decode cX10_cheapest 62 = .ok (.getfield 23, 3) := by decide +kernel
theorem dX10_cheapest_65 : decode cX10_cheapest 65 = .ok (.getfield 124, 3) := by decide +kernel
theorem dX10_cheapest_68 : decode cX10_cheapest 68 = .ok (.invokevirtual 343, 3) := by decide +kernel
theorem dX10_cheapest_71 : decode cX10_cheapest 71 = .ok (.istore 6, 2) := by decide +kernel
theorem dX10_cheapest_73 : decode cX10_cheapest 73 = .ok (.iconst (-1), 1) := by decide +kernel
theorem dX10_cheapest_74 : decode cX10_cheapest 74 = .ok (.istore 7, 2) := by decide +kernel
theorem dX10_cheapest_76 : decode cX10_cheapest 76 = .ok (.aload_n 0, 1) := by decide +kernel
theorem dX10_cheapest_77 : decode cX10_cheapest 77 = .ok (.getfield 30, 3) := by decide +kernel
theorem dX10_cheapest_80 : decode cX10_cheapest 80 = .ok (.getfield 168, 3) := by decide +kernel
theorem dX10_cheapest_83 : decode cX10_cheapest 83 = .ok (.iload_n 1, 1) := by decide +kernel
theorem dX10_cheapest_84 : decode cX10_cheapest 84 = .ok (.iaload, 1) := by decide +kernel
theorem dX10_cheapest_85 : decode cX10_cheapest 85 = .ok (.iconst 1, 1) := by decide +kernel
theorem dX10_cheapest_86 : decode cX10_cheapest 86 = .ok (.iadd, 1) := by decide +kernel
theorem dX10_cheapest_87 : decode cX10_cheapest 87 = .ok (.istore 8, 2) := by decide +kernel
theorem dX10_cheapest_89 : decode cX10_cheapest 89 = .ok (.iconst 0, 1) := by decide +kernel
theorem dX10_cheapest_90 : decode cX10_cheapest 90 = .ok (.istore 9, 2) := by decide +kernel
theorem dX10_cheapest_92 : decode cX10_cheapest 92 = .ok (.iconst 0, 1) := by decide +kernel
theorem dX10_cheapest_93 : decode cX10_cheapest 93 = .ok (.istore 10, 2) := by decide +kernel
theorem dX10_cheapest_95 : decode cX10_cheapest 95 = .ok (.iload 10, 2) := by decide +kernel
theorem dX10_cheapest_97 : decode cX10_cheapest 97 = .ok (.iload 6, 2) := by decide +kernel
theorem dX10_cheapest_99 : decode cX10_cheapest 99 = .ok (.if_icmp .gt 107, 3) := by decide +kernel
theorem dX10_cheapest_102 : decode cX10_cheapest 102 = .ok (.iload 10, 2) := by decide +kernel
theorem dX10_cheapest_104 : decode cX10_cheapest 104 = .ok (.iload 6, 2) := by decide +kernel
theorem dX10_cheapest_106 : decode cX10_cheapest 106 = .ok (.iconst (-1), 1) := by decide +kernel
theorem dX10_cheapest_107 : decode cX10_cheapest 107 = .ok (.ixor, 1) := by decide +kernel
theorem dX10_cheapest_108 : decode cX10_cheapest 108 = .ok (.iand, 1) := by decide +kernel
theorem dX10_cheapest_109 : decode cX10_cheapest 109 = .ok (.ifCond .eq 6, 3) := by decide +kernel
theorem dX10_cheapest_112 : decode cX10_cheapest 112 = .ok (.goto 88, 3) := by decide +kernel
theorem dX10_cheapest_115 : decode cX10_cheapest 115 = .ok (.aload_n 0, 1) := by decide +kernel
theorem dX10_cheapest_116 : decode cX10_cheapest 116 = .ok (.getfield 30, 3) := by decide +kernel
theorem dX10_cheapest_119 : decode cX10_cheapest 119 = .ok (.iload 10, 2) := by decide +kernel
theorem dX10_cheapest_121 : decode cX10_cheapest 121 = .ok (.invokevirtual 252, 3) := by decide +kernel
theorem dX10_cheapest_124 : decode cX10_cheapest 124 = .ok (.istore 11, 2) := by decide +kernel
theorem dX10_cheapest_126 : decode cX10_cheapest 126 = .ok (.iload 10, 2) := by decide +kernel
theorem dX10_cheapest_128 : decode cX10_cheapest 128 = .ok (.invokestatic 304, 3) := by decide +kernel
theorem dX10_cheapest_131 : decode cX10_cheapest 131 = .ok (.istore 12, 2) := by decide +kernel
theorem dX10_cheapest_133 : decode cX10_cheapest 133 = .ok (.iload 11, 2) := by decide +kernel
theorem dX10_cheapest_135 : decode cX10_cheapest 135 = .ok (.iload 8, 2) := by decide +kernel
theorem dX10_cheapest_137 : decode cX10_cheapest 137 = .ok (.if_icmp .lt 17, 3) := by decide +kernel
theorem dX10_cheapest_140 : decode cX10_cheapest 140 = .ok (.iload 11, 2) := by decide +kernel
theorem dX10_cheapest_142 : decode cX10_cheapest 142 = .ok (.iload 8, 2) := by decide +kernel
theorem dX10_cheapest_144 : decode cX10_cheapest 144 = .ok (.if_icmp .ne 14, 3) := by decide +kernel
theorem dX10_cheapest_147 : decode cX10_cheapest 147 = .ok (.iload 12, 2) := by decide +kernel
theorem dX10_cheapest_149 : decode cX10_cheapest 149 = .ok (.iload 9, 2) := by decide +kernel
theorem dX10_cheapest_151 : decode cX10_cheapest 151 = .ok (.if_icmp .ge 7, 3) := by decide +kernel
theorem dX10_cheapest_154 : decode cX10_cheapest 154 = .ok (.iconst 1, 1) := by decide +kernel
theorem dX10_cheapest_155 : decode cX10_cheapest 155 = .ok (.goto 4, 3) := by decide +kernel
theorem dX10_cheapest_158 : decode cX10_cheapest 158 = .ok (.iconst 0, 1) := by decide +kernel
theorem dX10_cheapest_159 : decode cX10_cheapest 159 = .ok (.istore 13, 2) := by decide +kernel
theorem dX10_cheapest_161 : decode cX10_cheapest 161 = .ok (.iload 13, 2) := by decide +kernel
theorem dX10_cheapest_163 : decode cX10_cheapest 163 = .ok (.ifCond .eq 37, 3) := by decide +kernel
theorem dX10_cheapest_166 : decode cX10_cheapest 166 = .ok (.aload_n 0, 1) := by decide +kernel
theorem dX10_cheapest_167 : decode cX10_cheapest 167 = .ok (.getfield 51, 3) := by decide +kernel
theorem dX10_cheapest_170 : decode cX10_cheapest 170 = .ok (.aload_n 0, 1) := by decide +kernel
theorem dX10_cheapest_171 : decode cX10_cheapest 171 = .ok (.getfield 23, 3) := by decide +kernel
theorem dX10_cheapest_174 : decode cX10_cheapest 174 = .ok (.iload 5, 2) := by decide +kernel
theorem dX10_cheapest_176 : decode cX10_cheapest 176 = .ok (.iload 10, 2) := by decide +kernel
theorem dX10_cheapest_178 : decode cX10_cheapest 178 = .ok (.ior, 1) := by decide +kernel
theorem dX10_cheapest_179 : decode cX10_cheapest 179 = .ok (.iload_n 2, 1) := by decide +kernel
theorem dX10_cheapest_180 : decode cX10_cheapest 180 = .ok (.invokevirtual 236, 3) := by decide +kernel
theorem dX10_cheapest_183 : decode cX10_cheapest 183 = .ok (.lload_n 3, 1) := by decide +kernel
theorem dX10_cheapest_184 : decode cX10_cheapest 184 = .ok (.lcmp, 1) := by decide +kernel
theorem dX10_cheapest_185 : decode cX10_cheapest 185 = .ok (.ifCond .lt 15, 3) := by decide +kernel
theorem dX10_cheapest_188 : decode cX10_cheapest 188 = .ok (.iload 10, 2) := by decide +kernel
theorem dX10_cheapest_190 : decode cX10_cheapest 190 = .ok (.istore 7, 2) := by decide +kernel
theorem dX10_cheapest_192 : decode cX10_cheapest 192 = .ok (.iload 11, 2) := by decide +kernel
theorem dX10_cheapest_194 : decode cX10_cheapest 194 = .ok (.istore 8, 2) := by decide +kernel
theorem dX10_cheapest_196 : decode cX10_cheapest 196 = .ok (.iload 12, 2) := by decide +kernel
theorem dX10_cheapest_198 : decode cX10_cheapest 198 = .ok (.istore 9, 2) := by decide +kernel
theorem dX10_cheapest_200 : decode cX10_cheapest 200 = .ok (.iinc 10 1, 3) := by decide +kernel
theorem dX10_cheapest_203 : decode cX10_cheapest 203 = .ok (.goto (-108), 3) := by decide +kernel
theorem dX10_cheapest_206 : decode cX10_cheapest 206 = .ok (.iload 7, 2) := by decide +kernel
theorem dX10_cheapest_208 : decode cX10_cheapest 208 = .ok (.ireturn, 1) := by decide +kernel
set_option maxRecDepth 20000 in
theorem ggX10_spreadAfter_X7_everyTicket : GoodIn wsX10_spreadAfter wsX7_everyTicket := goodIn_r _ [16, 17, 92, 93, 94, 95, 96, 97] (by decide +kernel) (by decide +kernel)
set_option maxRecDepth 20000 in
theorem gX10_spreadAfter_X7_everyTicket : GoodIn wsX10_spreadAfter (wsV RX10 240 RX7 yX7_everyTicket wsX7_everyTicket) := goodIn_app (goodIn_of _ (by decide +kernel)) ggX10_spreadAfter_X7_everyTicket
set_option maxRecDepth 20000 in
theorem ggX10_spreadAfter_X10_nextSeed : GoodIn wsX10_spreadAfter wsX10_nextSeed := goodIn_r _ [21, 22, 23, 24] (by decide +kernel) (by decide +kernel)
set_option maxRecDepth 20000 in
theorem gX10_spreadAfter_X10_nextSeed : GoodIn wsX10_spreadAfter (va_wsS RX10 211 yX10_nextSeed wsX10_nextSeed) := goodIn_app (goodIn_of _ (by decide +kernel)) ggX10_spreadAfter_X10_nextSeed
set_option maxRecDepth 20000 in
theorem ggX10_spreadAfter_X7_weightOf : GoodIn wsX10_spreadAfter wsX7_weightOf := goodIn_r _ [28, 17, 29, 30, 20, 31, 92, 93, 94, 95, 96, 97] (by decide +kernel) (by decide +kernel)
set_option maxRecDepth 20000 in
theorem gX10_spreadAfter_X7_weightOf : GoodIn wsX10_spreadAfter (wsV RX10 143 RX7 yX7_weightOf wsX7_weightOf) := goodIn_app (goodIn_of _ (by decide +kernel)) ggX10_spreadAfter_X7_weightOf
set_option maxRecDepth 20000 in
theorem ggX10_spreadAfter_X10_lotOf : GoodIn wsX10_spreadAfter wsX10_lotOf := goodIn_r _ [34, 35] (by decide +kernel) (by decide +kernel)
set_option maxRecDepth 20000 in
theorem gX10_spreadAfter_X10_lotOf : GoodIn wsX10_spreadAfter (va_wsS RX10 214 yX10_lotOf wsX10_lotOf) := goodIn_app (goodIn_of _ (by decide +kernel)) ggX10_spreadAfter_X10_lotOf
set_option maxRecDepth 20000 in
theorem ggX10_spreadAfter_X7_ticketAt : GoodIn wsX10_spreadAfter wsX7_ticketAt := goodIn_r _ [39, 17, 29, 30, 20, 31, 92, 93, 94, 95, 96, 97] (by decide +kernel) (by decide +kernel)
set_option maxRecDepth 20000 in
theorem gX10_spreadAfter_X7_ticketAt : GoodIn wsX10_spreadAfter (wsV RX10 217 RX7 yX7_ticketAt wsX7_ticketAt) := goodIn_app (goodIn_of _ (by decide +kernel)) ggX10_spreadAfter_X7_ticketAt
set_option maxRecDepth 20000 in
theorem ggX10_spreadAfter_X4_whoAges : GoodIn wsX10_spreadAfter wsX4_whoAges := goodIn_r _ [44, 45, 46, 84, 85, 86, 87, 88, 89, 90, 91] (by decide +kernel) (by decide +kernel)
set_option maxRecDepth 20000 in
theorem gX10_spreadAfter_X4_whoAges : GoodIn wsX10_spreadAfter (wsV RX10 332 RX4 yX4_whoAges wsX4_whoAges) := goodIn_app (goodIn_of _ (by decide +kernel)) ggX10_spreadAfter_X4_whoAges
set_option maxRecDepth 20000 in
theorem ggX10_spreadAfter_X10_isPerson : GoodIn wsX10_spreadAfter wsX10_isPerson := goodIn_r _ [50, 9, 11, 69, 70, 71, 72, 73, 74, 75, 76, 77, 78, 79, 80, 81, 82, 83, 92, 93, 94, 95, 96, 97] (by decide +kernel) (by decide +kernel)
set_option maxRecDepth 20000 in
theorem gX10_spreadAfter_X10_isPerson : GoodIn wsX10_spreadAfter (wsV RX10 163 RX10 yX10_isPerson wsX10_isPerson) := goodIn_app (goodIn_of _ (by decide +kernel)) ggX10_spreadAfter_X10_isPerson
set_option maxRecDepth 20000 in
theorem ggX10_spreadAfter_X10_older : GoodIn wsX10_spreadAfter wsX10_older := goodIn_r _ [53, 54, 55, 56, 57] (by decide +kernel) (by decide +kernel)
set_option maxRecDepth 20000 in
theorem gX10_spreadAfter_X10_older : GoodIn wsX10_spreadAfter (va_wsS RX10 352 yX10_older wsX10_older) := goodIn_app (goodIn_of _ (by decide +kernel)) ggX10_spreadAfter_X10_older
set_option maxRecDepth 20000 in
theorem ggX10_spreadAfter_X10_isTicket : GoodIn wsX10_spreadAfter wsX10_isTicket := goodIn_r _ [61, 9, 62, 69, 70, 71, 72, 73, 74, 75, 76, 77, 78, 79, 80, 81, 82, 83, 92, 93, 94, 95, 96, 97] (by decide +kernel) (by decide +kernel)
set_option maxRecDepth 20000 in
theorem gX10_spreadAfter_X10_isTicket : GoodIn wsX10_spreadAfter (wsV RX10 181 RX10 yX10_isTicket wsX10_isTicket) := goodIn_app (goodIn_of _ (by decide +kernel)) ggX10_spreadAfter_X10_isTicket
set_option maxRecDepth 20000 in
theorem ggX10_spreadAfter_X10_spreadOf : GoodIn wsX10_spreadAfter wsX10_spreadOf := goodIn_r _ [65, 54, 55, 56, 57, 66, 67, 68] (by decide +kernel) (by decide +kernel)
set_option maxRecDepth 20000 in
theorem gX10_spreadAfter_X10_spreadOf : GoodIn wsX10_spreadAfter (va_wsS RX10 150 yX10_spreadOf wsX10_spreadOf) := goodIn_app (goodIn_of _ (by decide +kernel)) ggX10_spreadAfter_X10_spreadOf
theorem dX10_spreadAfter_0 : decode cX10_spreadAfter 0 = .ok (.aload_n 0, 1) := by decide +kernel
theorem dX10_spreadAfter_1 : decode cX10_spreadAfter 1 = .ok (.getfield 30, 3) := by decide +kernel
theorem dX10_spreadAfter_4 : decode cX10_spreadAfter 4 = .ok (.getfield 147, 3) := by decide +kernel
theorem dX10_spreadAfter_7 : decode cX10_spreadAfter 7 = .ok (.iconst 0, 1) := by decide +kernel
theorem dX10_spreadAfter_8 : decode cX10_spreadAfter 8 = .ok (.aload_n 0, 1) := by decide +kernel
theorem dX10_spreadAfter_9 : decode cX10_spreadAfter 9 = .ok (.getfield 83, 3) := by decide +kernel
theorem dX10_spreadAfter_12 : decode cX10_spreadAfter 12 = .ok (.iconst 0, 1) := by decide +kernel
theorem dX10_spreadAfter_13 : decode cX10_spreadAfter 13 = .ok (.bipush 6, 2) := by decide +kernel
theorem dX10_spreadAfter_15 : decode cX10_spreadAfter 15 = .ok (.invokestatic 346, 3) := by decide +kernel
theorem dX10_spreadAfter_18 : decode cX10_spreadAfter 18 = .ok (.aload_n 0, 1) := by decide +kernel
theorem dX10_spreadAfter_19 : decode cX10_spreadAfter 19 = .ok (.getfield 93, 3) := by decide +kernel
theorem dX10_spreadAfter_22 : decode cX10_spreadAfter 22 = .ok (.istore_n 3, 1) := by decide +kernel
theorem dX10_spreadAfter_23 : decode cX10_spreadAfter 23 = .ok (.iconst 0, 1) := by decide +kernel
theorem dX10_spreadAfter_24 : decode cX10_spreadAfter 24 = .ok (.istore 4, 2) := by decide +kernel
theorem dX10_spreadAfter_26 : decode cX10_spreadAfter 26 = .ok (.iload 4, 2) := by decide +kernel
theorem dX10_spreadAfter_28 : decode cX10_spreadAfter 28 = .ok (.iload_n 1, 1) := by decide +kernel
theorem dX10_spreadAfter_29 : decode cX10_spreadAfter 29 = .ok (.if_icmp .ge 134, 3) := by decide +kernel
theorem dX10_spreadAfter_32 : decode cX10_spreadAfter 32 = .ok (.aload_n 0, 1) := by decide +kernel
theorem dX10_spreadAfter_33 : decode cX10_spreadAfter 33 = .ok (.getfield 23, 3) := by decide +kernel
theorem dX10_spreadAfter_36 : decode cX10_spreadAfter 36 = .ok (.invokevirtual 240, 3) := by decide +kernel
theorem dX10_spreadAfter_39 : decode cX10_spreadAfter 39 = .ok (.istore 5, 2) := by decide +kernel
theorem dX10_spreadAfter_41 : decode cX10_spreadAfter 41 = .ok (.iconst 0, 1) := by decide +kernel
theorem dX10_spreadAfter_42 : decode cX10_spreadAfter 42 = .ok (.istore 6, 2) := by decide +kernel
theorem dX10_spreadAfter_44 : decode cX10_spreadAfter 44 = .ok (.iload 6, 2) := by decide +kernel
theorem dX10_spreadAfter_46 : decode cX10_spreadAfter 46 = .ok (.aload_n 0, 1) := by decide +kernel
theorem dX10_spreadAfter_47 : decode cX10_spreadAfter 47 = .ok (.getfield 23, 3) := by decide +kernel
theorem dX10_spreadAfter_50 : decode cX10_spreadAfter 50 = .ok (.getfield 133, 3) := by decide +kernel
theorem dX10_spreadAfter_53 : decode cX10_spreadAfter 53 = .ok (.if_icmp .ge 104, 3) := by decide +kernel
theorem dX10_spreadAfter_56 : decode cX10_spreadAfter 56 = .ok (.iload 5, 2) := by decide +kernel
theorem dX10_spreadAfter_58 : decode cX10_spreadAfter 58 = .ok (.ifCond .eq 99, 3) := by decide +kernel
theorem dX10_spreadAfter_61 : decode cX10_spreadAfter 61 = .ok (.iload_n 3, 1) := by decide +kernel
theorem dX10_spreadAfter_62 : decode cX10_spreadAfter 62 = .ok (.invokestatic 211, 3) := by decide +kernel
theorem dX10_spreadAfter_65 : decode cX10_spreadAfter 65 = .ok (.istore_n 3, 1) := by decide +kernel
theorem dX10_spreadAfter_66 : decode cX10_spreadAfter 66 = .ok (.aload_n 0, 1) := by decide +kernel
theorem dX10_spreadAfter_67 : decode cX10_spreadAfter 67 = .ok (.getfield 23, 3) := by decide +kernel
theorem dX10_spreadAfter_70 : decode cX10_spreadAfter 70 = .ok (.iload 5, 2) := by decide +kernel
theorem dX10_spreadAfter_72 : decode cX10_spreadAfter 72 = .ok (.iload_n 3, 1) := by decide +kernel
theorem dX10_spreadAfter_73 : decode cX10_spreadAfter 73 = .ok (.aload_n 0, 1) := by decide +kernel
theorem dX10_spreadAfter_74 : decode cX10_spreadAfter 74 = .ok (.getfield 23, 3) := by decide +kernel
theorem dX10_spreadAfter_77 : decode cX10_spreadAfter 77 = .ok (.iload 5, 2) := by decide +kernel
theorem dX10_spreadAfter_79 : decode cX10_spreadAfter 79 = .ok (.invokevirtual 143, 3) := by decide +kernel
theorem dX10_spreadAfter_82 : decode cX10_spreadAfter 82 = .ok (.invokestatic 214, 3) := by decide +kernel
theorem dX10_spreadAfter_85 : decode cX10_spreadAfter 85 = .ok (.invokevirtual 217, 3) := by decide +kernel
theorem dX10_spreadAfter_88 : decode cX10_spreadAfter 88 = .ok (.istore 7, 2) := by decide +kernel
theorem dX10_spreadAfter_90 : decode cX10_spreadAfter 90 = .ok (.aload_n 0, 1) := by decide +kernel
theorem dX10_spreadAfter_91 : decode cX10_spreadAfter 91 = .ok (.getfield 30, 3) := by decide +kernel
theorem dX10_spreadAfter_94 : decode cX10_spreadAfter 94 = .ok (.iload 7, 2) := by decide +kernel
theorem dX10_spreadAfter_96 : decode cX10_spreadAfter 96 = .ok (.invokevirtual 332, 3) := by decide +kernel
theorem dX10_spreadAfter_99 : decode cX10_spreadAfter 99 = .ok (.istore 8, 2) := by decide +kernel
theorem dX10_spreadAfter_101 : decode cX10_spreadAfter 101 = .ok (.aload_n 0, 1) := by decide +kernel
theorem dX10_spreadAfter_102 : decode cX10_spreadAfter 102 = .ok (.iload 8, 2) := by decide +kernel
theorem dX10_spreadAfter_104 : decode cX10_spreadAfter 104 = .ok (.invokevirtual 163, 3) := by decide +kernel
theorem dX10_spreadAfter_107 : decode cX10_spreadAfter 107 = .ok (.ifCond .eq 20, 3) := by decide +kernel
theorem dX10_spreadAfter_110 : decode cX10_spreadAfter 110 = .ok (.aload_n 0, 1) := by decide +kernel
theorem dX10_spreadAfter_111 : decode cX10_spreadAfter 111 = .ok (.getfield 83, 3) := by decide +kernel
theorem dX10_spreadAfter_114 : decode cX10_spreadAfter 114 = .ok (.iload 8, 2) := by decide +kernel
theorem dX10_spreadAfter_116 : decode cX10_spreadAfter 116 = .ok (.aload_n 0, 1) := by decide +kernel
theorem dX10_spreadAfter_117 : decode cX10_spreadAfter 117 = .ok (.getfield 83, 3) := by decide +kernel
theorem dX10_spreadAfter_120 : decode cX10_spreadAfter 120 = .ok (.iload 8, 2) := by decide +kernel
theorem dX10_spreadAfter_122 : decode cX10_spreadAfter 122 = .ok (.iaload, 1) := by decide +kernel
theorem dX10_spreadAfter_123 : decode cX10_spreadAfter 123 = .ok (.invokestatic 352, 3) := by decide +kernel
theorem dX10_spreadAfter_126 : decode cX10_spreadAfter 126 = .ok (.iastore, 1) := by decide +kernel
theorem dX10_spreadAfter_127 : decode cX10_spreadAfter 127 = .ok (.iload_n 2, 1) := by decide +kernel
theorem dX10_spreadAfter_128 : decode cX10_spreadAfter 128 = .ok (.ifCond .ne 23, 3) := by decide +kernel
theorem dX10_spreadAfter_131 : decode cX10_spreadAfter 131 = .ok (.aload_n 0, 1) := by decide +kernel
theorem dX10_spreadAfter_132 : decode cX10_spreadAfter 132 = .ok (.iload 7, 2) := by decide +kernel
theorem dX10_spreadAfter_134 : decode cX10_spreadAfter 134 = .ok (.invokevirtual 181, 3) := by decide +kernel
theorem dX10_spreadAfter_137 : decode cX10_spreadAfter 137 = .ok (.ifCond .eq 14, 3) := by decide +kernel
theorem dX10_spreadAfter_140 : decode cX10_spreadAfter 140 = .ok (.iload 5, 2) := by decide +kernel
theorem dX10_spreadAfter_142 : decode cX10_spreadAfter 142 = .ok (.iconst 1, 1) := by decide +kernel
theorem dX10_spreadAfter_143 : decode cX10_spreadAfter 143 = .ok (.iload 7, 2) := by decide +kernel
theorem dX10_spreadAfter_145 : decode cX10_spreadAfter 145 = .ok (.ishl, 1) := by decide +kernel
theorem dX10_spreadAfter_146 : decode cX10_spreadAfter 146 = .ok (.iconst (-1), 1) := by decide +kernel
theorem dX10_spreadAfter_147 : decode cX10_spreadAfter 147 = .ok (.ixor, 1) := by decide +kernel
theorem dX10_spreadAfter_148 : decode cX10_spreadAfter 148 = .ok (.iand, 1) := by decide +kernel
theorem dX10_spreadAfter_149 : decode cX10_spreadAfter 149 = .ok (.istore 5, 2) := by decide +kernel
theorem dX10_spreadAfter_151 : decode cX10_spreadAfter 151 = .ok (.iinc 6 1, 3) := by decide +kernel
theorem dX10_spreadAfter_154 : decode cX10_spreadAfter 154 = .ok (.goto (-110), 3) := by decide +kernel
theorem dX10_spreadAfter_157 : decode cX10_spreadAfter 157 = .ok (.iinc 4 1, 3) := by decide +kernel
theorem dX10_spreadAfter_160 : decode cX10_spreadAfter 160 = .ok (.goto (-134), 3) := by decide +kernel
theorem dX10_spreadAfter_163 : decode cX10_spreadAfter 163 = .ok (.aload_n 0, 1) := by decide +kernel
theorem dX10_spreadAfter_164 : decode cX10_spreadAfter 164 = .ok (.getfield 83, 3) := by decide +kernel
theorem dX10_spreadAfter_167 : decode cX10_spreadAfter 167 = .ok (.aload_n 0, 1) := by decide +kernel
theorem dX10_spreadAfter_168 : decode cX10_spreadAfter 168 = .ok (.getfield 23, 3) := by decide +kernel
theorem dX10_spreadAfter_171 : decode cX10_spreadAfter 171 = .ok (.getfield 121, 3) := by decide +kernel
theorem dX10_spreadAfter_174 : decode cX10_spreadAfter 174 = .ok (.invokestatic 150, 3) := by decide +kernel
theorem dX10_spreadAfter_177 : decode cX10_spreadAfter 177 = .ok (.ireturn, 1) := by decide +kernel
