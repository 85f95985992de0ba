theorem dX11_in_0 : decode cX11_in 0 = .ok (.lload_n 0, 1) := by decide +kernel
theorem dX11_in_1 : decode cX11_in 1 = .ok (.lload_n 2, 1) := by decide +kernel
theorem dX11_in_2 : decode cX11_in 2 = .ok (.lcmp, 1) := by decide +kernel
theorem dX11_in_3 : decode cX11_in 3 = .ok (.ifCond .lt 14, 3) := by decide +kernel
theorem dX11_in_6 : decode cX11_in 6 = .ok (.lload_n 0, 1) := by decide +kernel
theorem dX11_in_7 : decode cX11_in 7 = .ok (.lload 4, 2) := by decide +kernel
theorem dX11_in_9 : decode cX11_in 9 = .ok (.lcmp, 1) := by decide +kernel
theorem dX11_in_10 : decode cX11_in 10 = .ok (.ifCond .gt 7, 3) := by decide +kernel
theorem dX11_in_13 : decode cX11_in 13 = .ok (.iconst 1, 1) := by decide +kernel
theorem dX11_in_14 : decode cX11_in 14 = .ok (.goto 4, 3) := by decide +kernel
theorem dX11_in_17 : decode cX11_in 17 = .ok (.iconst 0, 1) := by decide +kernel
theorem dX11_in_18 : decode cX11_in 18 = .ok (.ireturn, 1) := by decide +kernel
set_option maxRecDepth 20000 in
theorem ggX11_init_X11_plain : GoodIn wsX11_init wsX11_plain := goodIn_r _ [25, 5, 38, 39, 40, 41, 42, 43, 44, 45, 46, 47, 48, 49, 50, 51, 52, 53, 54, 55, 56, 57, 58, 59, 60, 61, 62, 63, 64] (by decide +kernel) (by decide +kernel)
set_option maxRecDepth 20000 in
theorem gX11_init_X11_plain : GoodIn wsX11_init (wsV RX11 59 RX11 yX11_plain wsX11_plain) := goodIn_app (goodIn_of _ (by decide +kernel)) ggX11_init_X11_plain
set_option maxRecDepth 20000 in
theorem ggX11_init_X11_starts : GoodIn wsX11_init wsX11_starts := goodIn_r _ [29, 6, 5, 8, 30, 31, 32, 33, 19, 34, 35, 36, 24, 37, 38, 39, 40, 41, 42, 43, 44, 45, 46, 47, 48, 49, 50, 51, 52, 53, 54, 55, 56, 57, 58, 59, 60, 61, 62, 63, 64] (by decide +kernel) (by decide +kernel)
set_option maxRecDepth 20000 in
theorem gX11_init_X11_starts : GoodIn wsX11_init (wsV RX11 62 RX11 yX11_starts wsX11_starts) := goodIn_app (goodIn_of _ (by decide +kernel)) ggX11_init_X11_starts
theorem dX11_init_0 : decode cX11_init 0 = .ok (.aload_n 0, 1) := by decide +kernel
theorem dX11_init_1 : decode cX11_init 1 = .ok (.invokespecial 1, 3) := by decide +kernel
theorem dX11_init_4 : decode cX11_init 4 = .ok (.aload_n 0, 1) := by decide +kernel
theorem dX11_init_5 : decode cX11_init 5 = .ok (.bipush 45, 2) := by decide +kernel
theorem dX11_init_7 : decode cX11_init 7 = .ok (.newarray .int, 2) := by decide +kernel
theorem dX11_init_9 : decode cX11_init 9 = .ok (.putfield 7, 3) := by decide +kernel
theorem dX11_init_12 : decode cX11_init 12 = .ok (.aload_n 0, 1) := by decide +kernel
theorem dX11_init_13 : decode cX11_init 13 = .ok (.bipush 45, 2) := by decide +kernel
theorem dX11_init_15 : decode cX11_init 15 = .ok (.newarray .int, 2) := by decide +kernel
theorem dX11_init_17 : decode cX11_init 17 = .ok (.putfield 13, 3) := by decide +kernel
theorem dX11_init_20 : decode cX11_init 20 = .ok (.aload_n 0, 1) := by decide +kernel
theorem dX11_init_21 : decode cX11_init 21 = .ok (.sipush 250, 3) := by decide +kernel
theorem dX11_init_24 : decode cX11_init 24 = .ok (.newarray .int, 2) := by decide +kernel
theorem dX11_init_26 : decode cX11_init 26 = .ok (.putfield 16, 3) := by decide +kernel
theorem dX11_init_29 : decode cX11_init 29 = .ok (.aload_n 0, 1) := by decide +kernel
theorem dX11_init_30 : decode cX11_init 30 = .ok (.bipush 39, 2) := by decide +kernel
theorem dX11_init_32 : decode cX11_init 32 = .ok (.newarray .int, 2) := by decide +kernel
theorem dX11_init_34 : decode cX11_init 34 = .ok (.putfield 19, 3) := by decide +kernel
theorem dX11_init_37 : decode cX11_init 37 = .ok (.aload_n 0, 1) := by decide +kernel
theorem dX11_init_38 : decode cX11_init 38 = .ok (.sipush 1170, 3) := by decide +kernel
theorem dX11_init_41 : decode cX11_init 41 = .ok (.newarray .int, 2) := by decide +kernel
theorem dX11_init_43 : decode cX11_init 43 = .ok (.putfield 22, 3) := by decide +kernel
theorem dX11_init_46 : decode cX11_init 46 = .ok (.aload_n 0, 1) := by decide +kernel
theorem dX11_init_47 : decode cX11_init 47 = .ok (.bipush 10, 2) := by decide +kernel
theorem dX11_init_49 : decode cX11_init 49 = .ok (.newarray .int, 2) := by decide +kernel
theorem dX11_init_51 : decode cX11_init 51 = .ok (.putfield 25, 3) := by decide +kernel
theorem dX11_init_54 : decode cX11_init 54 = .ok (.aload_n 0, 1) := by decide +kernel
theorem dX11_init_55 : decode cX11_init 55 = .ok (.sipush 256, 3) := by decide +kernel
theorem dX11_init_58 : decode cX11_init 58 = .ok (.newarray .int, 2) := by decide +kernel
theorem dX11_init_60 : decode cX11_init 60 = .ok (.putfield 28, 3) := by decide +kernel
theorem dX11_init_63 : decode cX11_init 63 = .ok (.aload_n 0, 1) := by decide +kernel
theorem dX11_init_64 : decode cX11_init 64 = .ok (.sipush 256, 3) := by decide +kernel
theorem dX11_init_67 : decode cX11_init 67 = .ok (.newarray .int, 2) := by decide +kernel
theorem dX11_init_69 : decode cX11_init 69 = .ok (.putfield 31, 3) := by decide +kernel
theorem dX11_init_72 : decode cX11_init 72 = .ok (.aload_n 0, 1) := by decide +kernel
theorem dX11_init_73 : decode cX11_init 73 = .ok (.bipush 39, 2) := by decide +kernel
theorem dX11_init_75 : decode cX11_init 75 = .ok (.newarray .int, 2) := by decide +kernel
theorem dX11_init_77 : decode cX11_init 77 = .ok (.putfield 34, 3) := by decide +kernel
theorem dX11_init_80 : decode cX11_init 80 = .ok (.aload_n 0, 1) := by decide +kernel
theorem dX11_init_81 : decode cX11_init 81 = .ok (.bipush 6, 2) := by decide +kernel
theorem dX11_init_83 : decode cX11_init 83 = .ok (.newarray .int, 2) := by decide +kernel
theorem dX11_init_85 : decode cX11_init 85 = .ok (.putfield 37, 3) := by decide +kernel
theorem dX11_init_88 : decode cX11_init 88 = .ok (.aload_n 0, 1) := by decide +kernel
theorem dX11_init_89 : decode cX11_init 89 = .ok (.bipush 6, 2) := by decide +kernel
theorem dX11_init_91 : decode cX11_init 91 = .ok (.newarray .int, 2) := by decide +kernel
theorem dX11_init_93 : decode cX11_init 93 = .ok (.putfield 40, 3) := by decide +kernel
theorem dX11_init_96 : decode cX11_init 96 = .ok (.aload_n 0, 1) := by decide +kernel
theorem dX11_init_97 : decode cX11_init 97 = .ok (.bipush 8, 2) := by decide +kernel
theorem dX11_init_99 : decode cX11_init 99 = .ok (.newarray .int, 2) := by decide +kernel
theorem dX11_init_101 : decode cX11_init 101 = .ok (.putfield 43, 3) := by decide +kernel
theorem dX11_init_104 : decode cX11_init 104 = .ok (.aload_n 0, 1) := by decide +kernel
theorem dX11_init_105 : decode cX11_init 105 = .ok (.bipush 6, 2) := by decide +kernel
theorem dX11_init_107 : decode cX11_init 107 = .ok (.newarray .int, 2) := by decide +kernel
theorem dX11_init_109 : decode cX11_init 109 = .ok (.putfield 46, 3) := by decide +kernel
theorem dX11_init_112 : decode cX11_init 112 = .ok (.aload_n 0, 1) := by decide +kernel
theorem dX11_init_113 : decode cX11_init 113 = .ok (.bipush 20, 2) := by decide +kernel
theorem dX11_init_115 : decode cX11_init 115 = .ok (.newarray .int, 2) := by decide +kernel
theorem dX11_init_117 : decode cX11_init 117 = .ok (.putfield 49, 3) := by decide +kernel
theorem dX11_init_120 : decode cX11_init 120 = .ok (.aload_n 0, 1) := by decide +kernel
theorem dX11_init_121 : decode cX11_init 121 = .ok (.bipush 82, 2) := by decide +kernel
theorem dX11_init_123 : decode cX11_init 123 = .ok (.newarray .int, 2) := by decide +kernel
theorem dX11_init_125 : decode cX11_init 125 = .ok (.putfield 52, 3) := by decide +kernel
theorem dX11_init_128 : decode cX11_init 128 = .ok (.aload_n 0, 1) := by decide +kernel
theorem dX11_init_129 : decode cX11_init 129 = .ok (.iconst (-1), 1) := by decide +kernel
theorem dX11_init_130 : decode cX11_init 130 = .ok (.putfield 55, 3) := by decide +kernel
theorem dX11_init_133 : decode cX11_init 133 = .ok (.aload_n 0, 1) := by decide +kernel
theorem dX11_init_134 : decode cX11_init 134 = .ok (.invokevirtual 59, 3) := by decide +kernel
theorem dX11_init_137 : decode cX11_init 137 = .ok (.aload_n 0, 1) := by decide +kernel
theorem dX11_init_138 : decode cX11_init 138 = .ok (.invokevirtual 62, 3) := by decide +kernel
theorem dX11_init_141 : decode cX11_init 141 = .ok (.return_, 1) := by decide +kernel
theorem dX11_plain_0 : decode cX11_plain 0 = .ok (.iconst 0, 1) := by decide +kernel
theorem dX11_plain_1 : decode cX11_plain 1 = .ok (.istore_n 1, 1) := by decide +kernel
theorem dX11_plain_2 : decode cX11_plain 2 = .ok (.iload_n 1, 1) := by decide +kernel
theorem dX11_plain_3 : decode cX11_plain 3 = .ok (.bipush 45, 2) := by decide +kernel
theorem dX11_plain_5 : decode cX11_plain 5 = .ok (.if_icmp .ge 16, 3) := by decide +kernel
theorem dX11_plain_8 : decode cX11_plain 8 = .ok (.aload_n 0, 1) := by decide +kernel
theorem dX11_plain_9 : decode cX11_plain 9 = .ok (.getfield 7, 3) := by decide +kernel
theorem dX11_plain_12 : decode cX11_plain 12 = .ok (.iload_n 1, 1) := by decide +kernel
theorem dX11_plain_13 : decode cX11_plain 13 = .ok (.iconst 0, 1) := by decide +kernel
theorem dX11_plain_14 : decode cX11_plain 14 = .ok (.iastore, 1) := by decide +kernel
theorem dX11_plain_15 : decode cX11_plain 15 = .ok (.iinc 1 1, 3) := by decide +kernel
theorem dX11_plain_18 : decode cX11_plain 18 = .ok (.goto (-16), 3) := by decide +kernel
theorem dX11_plain_21 : decode cX11_plain 21 = .ok (.aload_n 0, 1) := by decide +kernel
theorem dX11_plain_22 : decode cX11_plain 22 = .ok (.getfield 7, 3) := by decide +kernel
theorem dX11_plain_25 : decode cX11_plain 25 = .ok (.iconst 2, 1) := by decide +kernel
theorem dX11_plain_26 : decode cX11_plain 26 = .ok (.iconst 4, 1) := by decide +kernel
theorem dX11_plain_27 : decode cX11_plain 27 = .ok (.iastore, 1) := by decide +kernel
theorem dX11_plain_28 : decode cX11_plain 28 = .ok (.aload_n 0, 1) := by decide +kernel
theorem dX11_plain_29 : decode cX11_plain 29 = .ok (.getfield 7, 3) := by decide +kernel
theorem dX11_plain_32 : decode cX11_plain 32 = .ok (.iconst 3, 1) := by decide +kernel
theorem dX11_plain_33 : decode cX11_plain 33 = .ok (.iconst 1, 1) := by decide +kernel
theorem dX11_plain_34 : decode cX11_plain 34 = .ok (.iastore, 1) := by decide +kernel
theorem dX11_plain_35 : decode cX11_plain 35 = .ok (.aload_n 0, 1) := by decide +kernel
theorem dX11_plain_36 : decode cX11_plain 36 = .ok (.getfield 7, 3) := by decide +kernel
theorem dX11_plain_39 : decode cX11_plain 39 = .ok (.iconst 5, 1) := by decide +kernel
theorem dX11_plain_40 : decode cX11_plain 40 = .ok (.bipush 6, 2) := by decide +kernel
theorem dX11_plain_42 : decode cX11_plain 42 = .ok (.iastore, 1) := by decide +kernel
theorem dX11_plain_43 : decode cX11_plain 43 = .ok (.aload_n 0, 1) := by decide +kernel
theorem dX11_plain_44 : decode cX11_plain 44 = .ok (.getfield 7, 3) := by decide +kernel
theorem dX11_plain_47 : decode cX11_plain 47 = .ok (.bipush 6, 2) := by decide +kernel
theorem dX11_plain_49 : decode cX11_plain 49 = .ok (.bipush 18, 2) := by decide +kernel
theorem dX11_plain_51 : decode cX11_plain 51 = .ok (.iastore, 1) := by decide +kernel
theorem dX11_plain_52 : decode cX11_plain 52 = .ok (.aload_n 0, 1) := by decide +kernel
theorem dX11_plain_53 : decode cX11_plain 53 = .ok (.getfield 7, 3) := by decide +kernel
theorem dX11_plain_56 : decode cX11_plain 56 = .ok (.bipush 7, 2) := by decide +kernel
theorem dX11_plain_58 : decode cX11_plain 58 = .ok (.bipush 18, 2) := by decide +kernel
theorem dX11_plain_60 : decode cX11_plain 60 = .ok (.iastore, 1) := by decide +kernel
theorem dX11_plain_61 : decode cX11_plain 61 = .ok (.aload_n 0, 1) := by decide +kernel
theorem dX11_plain_62 : decode cX11_plain 62 = .ok (.getfield 7, 3) := by decide +kernel
theorem dX11_plain_65 : decode cX11_plain 65 = .ok (.bipush 8, 2) := by decide +kernel
theorem dX11_plain_67 : decode cX11_plain 67 = .ok (.bipush 65, 2) := by decide +kernel
theorem dX11_plain_69 : decode cX11_plain 69 = .ok (.iastore, 1) := by decide +kernel
theorem dX11_plain_70 : decode cX11_plain 70 = .ok (.return_, 1) := by decide +kernel
set_option maxRecDepth 20000 in
theorem ggX11_feed_X11_in : GoodIn wsX11_feed wsX11_in := goodIn_r _ [9] (by decide +kernel) (by decide +kernel)
set_option maxRecDepth 20000 in
theorem gX11_feed_X11_in : GoodIn wsX11_feed (va_wsS RX11 67 yX11_in wsX11_in) := goodIn_app (goodIn_of _ (by decide +kernel)) ggX11_feed_X11_in
theorem dX11_feed_0 : decode cX11_feed 0 = .ok (.iload_n 1, 1) := by decide +kernel
theorem dX11_feed_1 : decode cX11_feed 1 = .ok (.i2l, 1) := by decide +kernel
theorem dX11_feed_2 : decode cX11_feed 2 = .ok (.lconst 0, 1) := by decide +kernel
theorem dX11_feed_3 : decode cX11_feed 3 = .ok (.ldc2_w 65, 3) := by decide +kernel
theorem dX11_feed_6 : decode cX11_feed 6 = .ok (.invokestatic 67, 3) := by decide +kernel
theorem dX11_feed_9 : decode cX11_feed 9 = .ok (.ifCond .ne 6, 3) := by decide +kernel
theorem dX11_feed_12 : decode cX11_feed 12 = .ok (.ldc 71, 2) := by decide +kernel
theorem dX11_feed_14 : decode cX11_feed 14 = .ok (.ireturn, 1) := by decide +kernel
theorem dX11_feed_15 : decode cX11_feed 15 = .ok (.aload_n 0, 1) := by decide +kernel
theorem dX11_feed_16 : decode cX11_feed 16 = .ok (.getfield 72, 3) := by decide +kernel
theorem dX11_feed_19 : decode cX11_feed 19 = .ok (.sipush 250, 3) := by decide +kernel
theorem dX11_feed_22 : decode cX11_feed 22 = .ok (.if_icmp .ne 6, 3) := by decide +kernel
theorem dX11_feed_25 : decode cX11_feed 25 = .ok (.ldc 75, 2) := by decide +kernel
theorem dX11_feed_27 : decode cX11_feed 27 = .ok (.ireturn, 1) := by decide +kernel
theorem dX11_feed_28 : decode cX11_feed 28 = .ok (.aload_n 0, 1) := by decide +kernel
theorem dX11_feed_29 : decode cX11_feed 29 = .ok (.getfield 16, 3) := by decide +kernel
theorem dX11_feed_32 : decode cX11_feed 32 = .ok (.aload_n 0, 1) := by decide +kernel
theorem dX11_feed_33 : decode cX11_feed 33 = .ok (.getfield 72, 3) := by decide +kernel
theorem dX11_feed_36 : decode cX11_feed 36 = .ok (.iload_n 1, 1) := by decide +kernel
theorem dX11_feed_37 : decode cX11_feed 37 = .ok (.iastore, 1) := by decide +kernel
theorem dX11_feed_38 : decode cX11_feed 38 = .ok (.aload_n 0, 1) := by decide +kernel
theorem dX11_feed_39 : decode cX11_feed 39 = .ok (.dup, 1) := by decide +kernel
theorem dX11_feed_40 : decode cX11_feed 40 = .ok (.getfield 72, 3) := by decide +kernel
theorem dX11_feed_43 : decode cX11_feed 43 = .ok (.iconst 1, 1) := by decide +kernel
theorem dX11_feed_44 : decode cX11_feed 44 = .ok (.iadd, 1) := by decide +kernel
theorem dX11_feed_45 : decode cX11_feed 45 = .ok (.putfield 72, 3) := by decide +kernel
theorem dX11_feed_48 : decode cX11_feed 48 = .ok (.aload_n 0, 1) := by decide +kernel
theorem dX11_feed_49 : decode cX11_feed 49 = .ok (.getfield 72, 3) := by decide +kernel
theorem dX11_feed_52 : decode cX11_feed 52 = .ok (.ireturn, 1) := by decide +kernel
theorem dX11_here_0 : decode cX11_here 0 = .ok (.aload_n 0, 1) := by decide +kernel
theorem dX11_here_1 : decode cX11_here 1 = .ok (.getfield 76, 3) := by decide +kernel
theorem dX11_here_4 : decode cX11_here 4 = .ok (.aload_n 0, 1) := by decide +kernel
theorem dX11_here_5 : decode cX11_here 5 = .ok (.getfield 72, 3) := by decide +kernel
theorem dX11_here_8 : decode cX11_here 8 = .ok (.if_icmp .ge 30, 3) := by decide +kernel
theorem dX11_here_11 : decode cX11_here 11 = .ok (.aload_n 0, 1) := by decide +kernel
theorem dX11_here_12 : decode cX11_here 12 = .ok (.getfield 16, 3) := by decide +kernel
theorem dX11_here_15 : decode cX11_here 15 = .ok (.aload_n 0, 1) := by decide +kernel
theorem dX11_here_16 : decode cX11_here 16 = .ok (.getfield 76, 3) := by decide +kernel
theorem dX11_here_19 : decode cX11_here 19 = .ok (.iaload, 1) := by decide +kernel
theorem dX11_here_20 : decode cX11_here 20 = .ok (.bipush 32, 2) := by decide +kernel
theorem dX11_here_22 : decode cX11_here 22 = .ok (.if_icmp .ne 16, 3) := by decide +kernel
theorem dX11_here_25 : decode cX11_here 25 = .ok (.aload_n 0, 1) := by decide +kernel
theorem dX11_here_26 : decode cX11_here 26 = .ok (.dup, 1) := by decide +kernel
theorem dX11_here_27 : decode cX11_here 27 = .ok (.getfield 76, 3) := by decide +kernel
theorem dX11_here_30 : decode cX11_here 30 = .ok (.iconst 1, 1) := by decide +kernel
theorem dX11_here_31 : decode cX11_here 31 = .ok (.iadd, 1) := by decide +kernel
theorem dX11_here_32 : decode cX11_here 32 = .ok (.putfield 76, 3) := by decide +kernel
theorem dX11_here_35 : decode cX11_here 35 = .ok (.goto (-35), 3) := by decide +kernel
theorem dX11_here_38 : decode cX11_here 38 = .ok (.aload_n 0, 1) := by decide +kernel
theorem dX11_here_39 : decode cX11_here 39 = .ok (.getfield 76, 3) := by decide +kernel
theorem dX11_here_42 : decode cX11_here 42 = .ok (.aload_n 0, 1) := by decide +kernel
theorem dX11_here_43 : decode cX11_here 43 = .ok (.getfield 72, 3) := by decide +kernel
theorem dX11_here_46 : decode cX11_here 46 = .ok (.if_icmp .ge 15, 3) := by decide +kernel
theorem dX11_here_49 : decode cX11_here 49 = .ok (.aload_n 0, 1) := by decide +kernel
theorem dX11_here_50 : decode cX11_here 50 = .ok (.getfield 16, 3) := by decide +kernel
theorem dX11_here_53 : decode cX11_here 53 = .ok (.aload_n 0, 1) := by decide +kernel
theorem dX11_here_54 : decode cX11_here 54 = .ok (.getfield 76, 3) := by decide +kernel
theorem dX11_here_57 : decode cX11_here 57 = .ok (.iaload, 1) := by decide +kernel
theorem dX11_here_58 : decode cX11_here 58 = .ok (.goto 4, 3) := by decide +kernel
theorem dX11_here_61 : decode cX11_here 61 = .ok (.iconst (-1), 1) := by decide +kernel
theorem dX11_here_62 : decode cX11_here 62 = .ok (.ireturn, 1) := by decide +kernel
theorem dX11_faults_0 : decode cX11_faults 0 = .ok (.aload_n 0, 1) := by decide +kernel
theorem dX11_faults_1 : decode cX11_faults 1 = .ok (.getfield 79, 3) := by decide +kernel
theorem dX11_faults_4 : decode cX11_faults 4 = .ok (.ifCond .ne 13, 3) := by decide +kernel
theorem dX11_faults_7 : decode cX11_faults 7 = .ok (.aload_n 0, 1) := by decide +kernel
theorem dX11_faults_8 : decode cX11_faults 8 = .ok (.iload_n 1, 1) := by decide +kernel
theorem dX11_faults_9 : decode cX11_faults 9 = .ok (.putfield 79, 3) := by decide +kernel
theorem dX11_faults_12 : decode cX11_faults 12 = .ok (.aload_n 0, 1) := by decide +kernel
theorem dX11_faults_13 : decode cX11_faults 13 = .ok (.iload_n 2, 1) := by decide +kernel
theorem dX11_faults_14 : decode cX11_faults 14 = .ok (.putfield 55, 3) := by decide +kernel
theorem dX11_faults_17 : decode cX11_faults 17 = .ok (.return_, 1) := by decide +kernel
set_option maxRecDepth 20000 in
theorem ggX11_number_X11_here : GoodIn wsX11_number wsX11_here := goodIn_r _ [11, 4, 5, 6, 20, 21, 22, 23, 24, 25, 26, 27, 28, 29, 30, 31, 32, 33, 34, 35, 36, 37, 38, 39, 40, 41, 42, 43, 44, 45, 46] (by decide +kernel) (by decide +kernel)
set_option maxRecDepth 20000 in
theorem gX11_number_X11_here : GoodIn wsX11_number (wsV RX11 82 RX11 yX11_here wsX11_here) := goodIn_app (goodIn_of _ (by decide +kernel)) ggX11_number_X11_here
set_option maxRecDepth 20000 in
theorem ggX11_number_X11_in : GoodIn wsX11_number wsX11_in := goodIn_r _ [14] (by decide +kernel) (by decide +kernel)
set_option maxRecDepth 20000 in
theorem gX11_number_X11_in : GoodIn wsX11_number (va_wsS RX11 67 yX11_in wsX11_in) := goodIn_app (goodIn_of _ (by decide +kernel)) ggX11_number_X11_in
set_option maxRecDepth 20000 in
theorem ggX11_number_X11_faults : GoodIn wsX11_number wsX11_faults := goodIn_r _ [18, 1, 19, 20, 21, 22, 23, 24, 25, 26, 27, 28, 29, 30, 31, 32, 33, 34, 35, 36, 37, 38, 39, 40, 41, 42, 43, 44, 45, 46] (by decide +kernel) (by decide +kernel)
set_option maxRecDepth 20000 in
theorem gX11_number_X11_faults : GoodIn wsX11_number (wsV RX11 90 RX11 yX11_faults wsX11_faults) := goodIn_app (goodIn_of _ (by decide +kernel)) ggX11_number_X11_faults
theorem dX11_number_0 : decode cX11_number 0 = .ok (.aload_n 0, 1) := by decide +kernel
theorem dX11_number_1 : decode cX11_number 1 = .ok (.getfield 79, 3) := by decide +kernel
theorem dX11_number_4 : decode cX11_number 4 = .ok (.ifCond .eq 5, 3) := by decide +kernel
theorem dX11_number_7 : decode cX11_number 7 = .ok (.iload_n 1, 1) := by decide +kernel
theorem dX11_number_8 : decode cX11_number 8 = .ok (.ireturn, 1) := by decide +kernel
theorem dX11_number_9 : decode cX11_number 9 = .ok (.aload_n 0, 1) := by decide +kernel
theorem dX11_number_10 : decode cX11_number 10 = .ok (.invokevirtual 82, 3) := by decide +kernel
theorem dX11_number_13 : decode cX11_number 13 = .ok (.i2l, 1) := by decide +kernel
theorem dX11_number_14 : decode cX11_number 14 = .ok (.ldc2_w 86, 3) := by decide +kernel
theorem dX11_number_17 : decode cX11_number 17 = .ok (.ldc2_w 88, 3) := by decide +kernel
theorem dX11_number_20 : decode cX11_number 20 = .ok (.invokestatic 67, 3) := by decide +kernel
theorem dX11_number_23 : decode cX11_number 23 = .ok (.ifCond .ne 14, 3) := by decide +kernel
theorem dX11_number_26 : decode cX11_number 26 = .ok (.aload_n 0, 1) := by decide +kernel
theorem dX11_number_27 : decode cX11_number 27 = .ok (.iconst 1, 1) := by decide +kernel
theorem dX11_number_28 : decode cX11_number 28 = .ok (.aload_n 0, 1) := by decide +kernel
theorem dX11_number_29 : decode cX11_number 29 = .ok (.getfield 76, 3) := by decide +kernel
theorem dX11_number_32 : decode cX11_number 32 = .ok (.invokevirtual 90, 3) := by decide +kernel
theorem dX11_number_35 : decode cX11_number 35 = .ok (.iload_n 1, 1) := by decide +kernel
theorem dX11_number_36 : decode cX11_number 36 = .ok (.ireturn, 1) := by decide +kernel
theorem dX11_number_37 : decode cX11_number 37 = .ok (.aload_n 0, 1) := by decide +kernel
theorem dX11_number_38 : decode cX11_number 38 = .ok (.getfield 76, 3) := by decide +kernel
theorem dX11_number_41 : decode cX11_number 41 = .ok (.istore_n 3, 1) := by decide +kernel
theorem dX11_number_42 : decode cX11_number 42 = .ok (.iconst 0, 1) := by decide +kernel
theorem dX11_number_43 : decode cX11_number 43 = .ok (.istore 4, 2) := by decide +kernel
theorem dX11_number_45 : decode cX11_number 45 = .ok (.aload_n 0, 1) := by decide +kernel
theorem dX11_number_46 : decode cX11_number 46 = .ok (.getfield 76, 3) := by decide +kernel
theorem dX11_number_49 : decode cX11_number 49 = .ok (.aload_n 0, 1) := by decide +kernel
theorem dX11_number_50 : decode cX11_number 50 = .ok (.getfield 72, 3) := by decide +kernel
theorem dX11_number_53 : decode cX11_number 53 = .ok (.if_icmp .ge 74, 3) := by decide +kernel
theorem dX11_number_56 : decode cX11_number 56 = .ok (.aload_n 0, 1) := by decide +kernel
theorem dX11_number_57 : decode cX11_number 57 = .ok (.getfield 16, 3) := by decide +kernel
theorem dX11_number_60 : decode cX11_number 60 = .ok (.aload_n 0, 1) := by decide +kernel
theorem dX11_number_61 : decode cX11_number 61 = .ok (.getfield 76, 3) := by decide +kernel
theorem dX11_number_64 : decode cX11_number 64 = .ok (.iaload, 1) := by decide +kernel
theorem dX11_number_65 : decode cX11_number 65 = .ok (.i2l, 1) := by decide +kernel
theorem dX11_number_66 : decode cX11_number 66 = .ok (.ldc2_w 86, 3) := by decide +kernel
theorem dX11_number_69 : decode cX11_number 69 = .ok (.ldc2_w 88, 3) := by decide +kernel
theorem dX11_number_72 : decode cX11_number 72 = .ok (.invokestatic 67, 3) := by decide +kernel
theorem dX11_number_75 : decode cX11_number 75 = .ok (.ifCond .eq 52, 3) := by decide +kernel
theorem dX11_number_78 : decode cX11_number 78 = .ok (.aload_n 0, 1) := by decide +kernel
theorem dX11_number_79 : decode cX11_number 79 = .ok (.getfield 76, 3) := by decide +kernel
theorem dX11_number_82 : decode cX11_number 82 = .ok (.iload_n 3, 1) := by decide +kernel
theorem dX11_number_83 : decode cX11_number 83 = .ok (.isub, 1) := by decide +kernel
theorem dX11_number_84 : decode cX11_number 84 = .ok (.iconst 2, 1) := by decide +kernel
theorem dX11_number_85 : decode cX11_number 85 = .ok (.if_icmp .le 9, 3) := by decide +kernel
theorem dX11_number_88 : decode cX11_number 88 = .ok (.sipush 9999, 3) := by decide +kernel
theorem dX11_number_91 : decode cX11_number 91 = .ok (.goto 21, 3) := by decide +kernel
theorem dX11_number_94 : decode cX11_number 94 = .ok (.bipush 10, 2) := by decide +kernel
theorem dX11_number_96 : decode cX11_number 96 = .ok (.iload 4, 2) := by decide +kernel
theorem dX11_number_98 : decode cX11_number 98 = .ok (.imul, 1) := by decide +kernel
theorem dX11_number_99 : decode cX11_number 99 = .ok (.aload_n 0, 1) := by decide +kernel
theorem dX11_number_100 : decode cX11_number 100 = .ok (.getfield 16, 3) := by decide +kernel
theorem dX11_number_103 : decode cX11_number 103 = .ok (.aload_n 0, 1) := by decide +kernel
theorem dX11_number_104 : decode cX11_number 104 = .ok (.getfield 76, 3) := by decide +kernel
theorem dX11_number_107 : decode cX11_number 107 = .ok (.iaload, 1) := by decide +kernel
theorem dX11_number_108 : decode cX11_number 108 = .ok (.iadd, 1) := by decide +kernel
theorem dX11_number_109 : decode cX11_number 109 = .ok (.bipush 48, 2) := by decide +kernel
theorem dX11_number_111 : decode cX11_number 111 = .ok (.isub, 1) := by decide +kernel
theorem dX11_number_112 : decode cX11_number 112 = .ok (.istore 4, 2) := by decide +kernel
theorem dX11_number_114 : decode cX11_number 114 = .ok (.aload_n 0, 1) := by decide +kernel
theorem dX11_number_115 : decode cX11_number 115 = .ok (.dup, 1) := by decide +kernel
theorem dX11_number_116 : decode cX11_number 116 = .ok (.getfield 76, 3) := by decide +kernel
theorem dX11_number_119 : decode cX11_number 119 = .ok (.iconst 1, 1) := by decide +kernel
theorem dX11_number_120 : decode cX11_number 120 = .ok (.iadd, 1) := by decide +kernel
theorem dX11_number_121 : decode cX11_number 121 = .ok (.putfield 76, 3) := by decide +kernel
theorem dX11_number_124 : decode cX11_number 124 = .ok (.goto (-79), 3) := by decide +kernel
theorem dX11_number_127 : decode cX11_number 127 = .ok (.iload 4, 2) := by decide +kernel
theorem dX11_number_129 : decode cX11_number 129 = .ok (.i2l, 1) := by decide +kernel
theorem dX11_number_130 : decode cX11_number 130 = .ok (.iload_n 1, 1) := by decide +kernel
theorem dX11_number_131 : decode cX11_number 131 = .ok (.i2l, 1) := by decide +kernel
theorem dX11_number_132 : decode cX11_number 132 = .ok (.iload_n 2, 1) := by decide +kernel
theorem dX11_number_133 : decode cX11_number 133 = .ok (.i2l, 1) := by decide +kernel
theorem dX11_number_134 : decode cX11_number 134 = .ok (.invokestatic 67, 3) := by decide +kernel
theorem dX11_number_137 : decode cX11_number 137 = .ok (.ifCond .ne 9, 3) := by decide +kernel
theorem dX11_number_140 : decode cX11_number 140 = .ok (.aload_n 0, 1) := by decide +kernel
theorem dX11_number_141 : decode cX11_number 141 = .ok (.iconst 2, 1) := by decide +kernel
theorem dX11_number_142 : decode cX11_number 142 = .ok (.iload_n 3, 1) := by decide +kernel
theorem dX11_number_143 : decode cX11_number 143 = .ok (.invokevirtual 90, 3) := by decide +kernel
theorem dX11_number_146 : decode cX11_number 146 = .ok (.iload 4, 2) := by decide +kernel
theorem dX11_number_148 : decode cX11_number 148 = .ok (.ireturn, 1) := by decide +kernel
set_option maxRecDepth 20000 in
theorem ggX11_readPerson_X11_number : GoodIn wsX11_readPerson wsX11_number := goodIn_r _ [6, 7, 8, 9, 10, 11, 12, 13, 14, 15, 5, 16, 17, 18, 19, 20, 21, 22, 23, 24, 25, 26, 27, 28, 29, 30, 31, 32, 33, 34, 35, 36, 37, 38, 39, 40, 41, 42, 43, 44, 45, 46, 47, 48, 49, 50, 51] (by decide +kernel) (by decide +kernel)
set_option maxRecDepth 20000 in
theorem gX11_readPerson_X11_number : GoodIn wsX11_readPerson (wsV RX11 94 RX11 yX11_number wsX11_number) := goodIn_app (goodIn_of _ (by decide +kernel)) ggX11_readPerson_X11_number
theorem dX11_readPerson_0 : decode cX11_readPerson 0 = .ok (.bipush 9, 2) := by decide +kernel
theorem dX11_readPerson_2 : decode cX11_readPerson 2 = .ok (.iconst 2, 1) := by decide +kernel
theorem dX11_readPerson_3 : decode cX11_readPerson 3 = .ok (.aload_n 0, 1) := by decide +kernel
theorem dX11_readPerson_4 : decode cX11_readPerson 4 = .ok (.getfield 7, 3) := by decide +kernel
theorem dX11_readPerson_7 : decode cX11_readPerson 7 = .ok (.iconst 0, 1) := by decide +kernel
theorem dX11_readPerson_8 : decode cX11_readPerson 8 = .ok (.iaload, 1) := by decide +kernel
theorem dX11_readPerson_9 : decode cX11_readPerson 9 = .ok (.imul, 1) := by decide +kernel
theorem dX11_readPerson_10 : decode cX11_readPerson 10 = .ok (.iadd, 1) := by decide +kernel
theorem dX11_readPerson_11 : decode cX11_readPerson 11 = .ok (.istore_n 1, 1) := by decide +kernel
theorem dX11_readPerson_12 : decode cX11_readPerson 12 = .ok (.aload_n 0, 1) := by decide +kernel
theorem dX11_readPerson_13 : decode cX11_readPerson 13 = .ok (.getfield 7, 3) := by decide +kernel
theorem dX11_readPerson_16 : decode cX11_readPerson 16 = .ok (.iload_n 1, 1) := by decide +kernel
theorem dX11_readPerson_17 : decode cX11_readPerson 17 = .ok (.aload_n 0, 1) := by decide +kernel
theorem dX11_readPerson_18 : decode cX11_readPerson 18 = .ok (.iconst 0, 1) := by decide +kernel
theorem dX11_readPerson_19 : decode cX11_readPerson 19 = .ok (.bipush 99, 2) := by decide +kernel
theorem dX11_readPerson_21 : decode cX11_readPerson 21 = .ok (.invokevirtual 94, 3) := by decide +kernel
theorem dX11_readPerson_24 : decode cX11_readPerson 24 = .ok (.iastore, 1) := by decide +kernel
theorem dX11_readPerson_25 : decode cX11_readPerson 25 = .ok (.aload_n 0, 1) := by decide +kernel
theorem dX11_readPerson_26 : decode cX11_readPerson 26 = .ok (.getfield 7, 3) := by decide +kernel
theorem dX11_readPerson_29 : decode cX11_readPerson 29 = .ok (.iload_n 1, 1) := by decide +kernel
theorem dX11_readPerson_30 : decode cX11_readPerson 30 = .ok (.iconst 1, 1) := by decide +kernel
theorem dX11_readPerson_31 : decode cX11_readPerson 31 = .ok (.iadd, 1) := by decide +kernel
theorem dX11_readPerson_32 : decode cX11_readPerson 32 = .ok (.aload_n 0, 1) := by decide +kernel
theorem dX11_readPerson_33 : decode cX11_readPerson 33 = .ok (.iconst 0, 1) := by decide +kernel
theorem dX11_readPerson_34 : decode cX11_readPerson 34 = .ok (.sipush 999, 3) := by decide +kernel
theorem dX11_readPerson_37 : decode cX11_readPerson 37 = .ok (.invokevirtual 94, 3) := by decide +kernel
theorem dX11_readPerson_40 : decode cX11_readPerson 40 = .ok (.iastore, 1) := by decide +kernel
theorem dX11_readPerson_41 : decode cX11_readPerson 41 = .ok (.aload_n 0, 1) := by decide +kernel
theorem dX11_readPerson_42 : decode cX11_readPerson 42 = .ok (.getfield 7, 3) := by decide +kernel
theorem dX11_readPerson_45 : decode cX11_readPerson 45 = .ok (.iconst 0, 1) := by decide +kernel
theorem dX11_readPerson_46 : decode cX11_readPerson 46 = .ok (.dup2, 1) := by decide +kernel
theorem dX11_readPerson_47 : decode cX11_readPerson 47 = .ok (.iaload, 1) := by decide +kernel
theorem dX11_readPerson_48 : decode cX11_readPerson 48 = .ok (.iconst 1, 1) := by decide +kernel
theorem dX11_readPerson_49 : decode cX11_readPerson 49 = .ok (.iadd, 1) := by decide +kernel
theorem dX11_readPerson_50 : decode cX11_readPerson 50 = .ok (.iastore, 1) := by decide +kernel
theorem dX11_readPerson_51 : decode cX11_readPerson 51 = .ok (.return_, 1) := by decide +kernel
set_option maxRecDepth 20000 in
theorem ggX11_readTicket_X11_number : GoodIn wsX11_readTicket wsX11_number := goodIn_r _ [6, 7, 8, 9, 10, 11, 12, 13, 14, 15, 5, 16, 17, 18, 19, 20, 21, 22, 23, 24, 25, 26, 27, 28, 29, 30, 31, 32, 33, 34, 35, 36, 37, 38, 39, 40, 41, 42, 43, 44, 45, 46, 47, 48, 49, 50, 51] (by decide +kernel) (by decide +kernel)
set_option maxRecDepth 20000 in
theorem gX11_readTicket_X11_number : GoodIn wsX11_readTicket (wsV RX11 94 RX11 yX11_number wsX11_number) := goodIn_app (goodIn_of _ (by decide +kernel)) ggX11_readTicket_X11_number
theorem dX11_readTicket_0 : decode cX11_readTicket 0 = .ok (.bipush 21, 2) := by decide +kernel
theorem dX11_readTicket_2 : decode cX11_readTicket 2 = .ok (.iconst 3, 1) := by decide +kernel
theorem dX11_readTicket_3 : decode cX11_readTicket 3 = .ok (.aload_n 0, 1) := by decide +kernel
theorem dX11_readTicket_4 : decode cX11_readTicket 4 = .ok (.getfield 7, 3) := by decide +kernel
theorem dX11_readTicket_7 : decode cX11_readTicket 7 = .ok (.iconst 1, 1) := by decide +kernel
theorem dX11_readTicket_8 : decode cX11_readTicket 8 = .ok (.iaload, 1) := by decide +kernel
theorem dX11_readTicket_9 : decode cX11_readTicket 9 = .ok (.imul, 1) := by decide +kernel
theorem dX11_readTicket_10 : decode cX11_readTicket 10 = .ok (.iadd, 1) := by decide +kernel
theorem dX11_readTicket_11 : decode cX11_readTicket 11 = .ok (.istore_n 1, 1) := by decide +kernel
theorem dX11_readTicket_12 : decode cX11_readTicket 12 = .ok (.aload_n 0, 1) := by decide +kernel
theorem dX11_readTicket_13 : decode cX11_readTicket 13 = .ok (.getfield 7, 3) := by decide +kernel
theorem dX11_readTicket_16 : decode cX11_readTicket 16 = .ok (.iload_n 1, 1) := by decide +kernel
theorem dX11_readTicket_17 : decode cX11_readTicket 17 = .ok (.aload_n 0, 1) := by decide +kernel
theorem dX11_readTicket_18 : decode cX11_readTicket 18 = .ok (.iconst 0, 1) := by decide +kernel
theorem dX11_readTicket_19 : decode cX11_readTicket 19 = .ok (.aload_n 0, 1) := by decide +kernel
theorem dX11_readTicket_20 : decode cX11_readTicket 20 = .ok (.getfield 7, 3) := by decide +kernel
theorem dX11_readTicket_23 : decode cX11_readTicket 23 = .ok (.iconst 0, 1) := by decide +kernel
theorem dX11_readTicket_24 : decode cX11_readTicket 24 = .ok (.iaload, 1) := by decide +kernel
theorem dX11_readTicket_25 : decode cX11_readTicket 25 = .ok (.iconst 1, 1) := by decide +kernel
theorem dX11_readTicket_26 : decode cX11_readTicket 26 = .ok (.isub, 1) := by decide +kernel
theorem dX11_readTicket_27 : decode cX11_readTicket 27 = .ok (.invokevirtual 94, 3) := by decide +kernel
theorem dX11_readTicket_30 : decode cX11_readTicket 30 = .ok (.iastore, 1) := by decide +kernel
theorem dX11_readTicket_31 : decode cX11_readTicket 31 = .ok (.aload_n 0, 1) := by decide +kernel
theorem dX11_readTicket_32 : decode cX11_readTicket 32 = .ok (.getfield 7, 3) := by decide +kernel
theorem dX11_readTicket_35 : decode cX11_readTicket 35 = .ok (.iload_n 1, 1) := by decide +kernel
theorem dX11_readTicket_36 : decode cX11_readTicket 36 = .ok (.iconst 1, 1) := by decide +kernel
theorem dX11_readTicket_37 : decode cX11_readTicket 37 = .ok (.iadd, 1) := by decide +kernel
theorem dX11_readTicket_38 : decode cX11_readTicket 38 = .ok (.aload_n 0, 1) := by decide +kernel
theorem dX11_readTicket_39 : decode cX11_readTicket 39 = .ok (.iconst 1, 1) := by decide +kernel
theorem dX11_readTicket_40 : decode cX11_readTicket 40 = .ok (.bipush 9, 2) := by decide +kernel
theorem dX11_readTicket_42 : decode cX11_readTicket 42 = .ok (.invokevirtual 94, 3) := by decide +kernel
theorem dX11_readTicket_45 : decode cX11_readTicket 45 = .ok (.iastore, 1) := by decide +kernel
theorem dX11_readTicket_46 : decode cX11_readTicket 46 = .ok (.aload_n 0, 1) := by decide +kernel
theorem dX11_readTicket_47 : decode cX11_readTicket 47 = .ok (.getfield 7, 3) := by decide +kernel
theorem dX11_readTicket_50 : decode cX11_readTicket 50 = .ok (.iload_n 1, 1) := by decide +kernel
theorem dX11_readTicket_51 : decode cX11_readTicket 51 = .ok (.iconst 2, 1) := by decide +kernel
theorem dX11_readTicket_52 : decode cX11_readTicket 52 = .ok (.iadd, 1) := by decide +kernel
theorem dX11_readTicket_53 : decode cX11_readTicket 53 = .ok (.aload_n 0, 1) := by decide +kernel
theorem dX11_readTicket_54 : decode cX11_readTicket 54 = .ok (.iconst 0, 1) := by decide +kernel
theorem dX11_readTicket_55 : decode cX11_readTicket 55 = .ok (.bipush 99, 2) := by decide +kernel
theorem dX11_readTicket_57 : decode cX11_readTicket 57 = .ok (.invokevirtual 94, 3) := by decide +kernel
theorem dX11_readTicket_60 : decode cX11_readTicket 60 = .ok (.iastore, 1) := by decide +kernel
theorem dX11_readTicket_61 : decode cX11_readTicket 61 = .ok (.aload_n 0, 1) := by decide +kernel
theorem dX11_readTicket_62 : decode cX11_readTicket 62 = .ok (.getfield 7, 3) := by decide +kernel
theorem dX11_readTicket_65 : decode cX11_readTicket 65 = .ok (.iconst 1, 1) := by decide +kernel
theorem dX11_readTicket_66 : decode cX11_readTicket 66 = .ok (.dup2, 1) := by decide +kernel
theorem dX11_readTicket_67 : decode cX11_readTicket 67 = .ok (.iaload, 1) := by decide +kernel
theorem dX11_readTicket_68 : decode cX11_readTicket 68 = .ok (.iconst 1, 1) := by decide +kernel
theorem dX11_readTicket_69 : decode cX11_readTicket 69 = .ok (.iadd, 1) := by decide +kernel
theorem dX11_readTicket_70 : decode cX11_readTicket 70 = .ok (.iastore, 1) := by decide +kernel
theorem dX11_readTicket_71 : decode cX11_readTicket 71 = .ok (.return_, 1) := by decide +kernel
set_option maxRecDepth 20000 in
theorem ggX11_clause_X11_here : GoodIn wsX11_clause wsX11_here := goodIn_r _ [8, 1, 9, 10, 33, 34, 35, 36, 37, 38, 39, 40, 41, 42, 43, 44, 45, 46, 47, 48, 49, 50, 51, 52, 53, 54, 55, 56, 57, 58, 59] (by decide +kernel) (by decide +kernel)
set_option maxRecDepth 20000 in
theorem gX11_clause_X11_here : GoodIn wsX11_clause (wsV RX11 82 RX11 yX11_here wsX11_here) := goodIn_app (goodIn_of _ (by decide +kernel)) ggX11_clause_X11_here
set_option maxRecDepth 20000 in
theorem ggX11_clause_X11_faults : GoodIn wsX11_clause wsX11_faults := goodIn_r _ [14, 3, 15, 33, 34, 35, 36, 37, 38, 39, 40, 41, 42, 43, 44, 45, 46, 47, 48, 49, 50, 51, 52, 53, 54, 55, 56, 57, 58, 59] (by decide +kernel) (by decide +kernel)
set_option maxRecDepth 20000 in
theorem gX11_clause_X11_faults : GoodIn wsX11_clause (wsV RX11 90 RX11 yX11_faults wsX11_faults) := goodIn_app (goodIn_of _ (by decide +kernel)) ggX11_clause_X11_faults
set_option maxRecDepth 20000 in
theorem ggX11_clause_X11_readPerson : GoodIn wsX11_clause wsX11_readPerson := goodIn_r _ [19, 2, 20, 21, 22, 7, 23, 3, 24, 25, 1, 9, 10, 4, 5, 6, 8, 26, 27, 28, 11, 12, 13, 14, 15, 33, 34, 35, 36, 37, 38, 39, 40, 41, 42, 43, 44, 45, 46, 47, 48, 49, 50, 51, 52, 53, 54, 55, 56, 57, 58, 59] (by decide +kernel) (by decide +kernel)
set_option maxRecDepth 20000 in
theorem gX11_clause_X11_readPerson : GoodIn wsX11_clause (wsV RX11 98 RX11 yX11_readPerson wsX11_readPerson) := goodIn_app (goodIn_of _ (by decide +kernel)) ggX11_clause_X11_readPerson
set_option maxRecDepth 20000 in
theorem ggX11_clause_X11_readTicket : GoodIn wsX11_clause wsX11_readTicket := goodIn_r _ [32, 2, 20, 21, 22, 7, 23, 3, 24, 25, 1, 9, 10, 4, 5, 6, 8, 26, 27, 28, 11, 12, 13, 14, 15, 33, 34, 35, 36, 37, 38, 39, 40, 41, 42, 43, 44, 45, 46, 47, 48, 49, 50, 51, 52, 53, 54, 55, 56, 57, 58, 59] (by decide +kernel) (by decide +kernel)
set_option maxRecDepth 20000 in
theorem gX11_clause_X11_readTicket : GoodIn wsX11_clause (wsV RX11 101 RX11 yX11_readTicket wsX11_readTicket) := goodIn_app (goodIn_of _ (by decide +kernel)) ggX11_clause_X11_readTicket
set_option maxRecDepth 20000 in
theorem ggX11_clause_X11_number : GoodIn wsX11_clause wsX11_number := goodIn_r _ [23, 3, 24, 25, 1, 9, 10, 4, 5, 6, 7, 8, 26, 27, 28, 11, 12, 13, 14, 15, 33, 34, 35, 36, 37, 38, 39, 40, 41, 42, 43, 44, 45, 46, 47, 48, 49, 50, 51, 52, 53, 54, 55, 56, 57, 58, 59] (by decide +kernel) (by decide +kernel)
set_option maxRecDepth 20000 in
theorem gX11_clause_X11_number : GoodIn wsX11_clause (wsV RX11 94 RX11 yX11_number wsX11_number) := goodIn_app (goodIn_of _ (by decide +kernel)) ggX11_clause_X11_number
theorem dX11_clause_0 : decode cX11_clause 0 = .ok (.aload_n 0, 1) := by decide +kernel
theorem dX11_clause_1 : decode cX11_clause 1 = .ok (.invokevirtual 82, 3) := by decide +kernel
theorem dX11_clause_4 : decode cX11_clause 4 = .ok (.istore_n 1, 1) := by decide +kernel
theorem dX11_clause_5 : decode cX11_clause 5 = .ok (.aload_n 0, 1) := by decide +kernel
theorem dX11_clause_6 : decode cX11_clause 6 = .ok (.getfield 76, 3) := by decide +kernel
theorem dX11_clause_9 : decode cX11_clause 9 = .ok (.istore_n 2, 1) := by decide +kernel
theorem dX11_clause_10 : decode cX11_clause 10 = .ok (.iload_n 1, 1) := by decide +kernel
theorem dX11_clause_11 : decode cX11_clause 11 = .ok (.bipush 112, 2) := by decide +kernel
theorem dX11_clause_13 : decode cX11_clause 13 = .ok (.if_icmp .ne 14, 3) := by decide +kernel
theorem dX11_clause_16 : decode cX11_clause 16 = .ok (.aload_n 0, 1) := by decide +kernel
theorem dX11_clause_17 : decode cX11_clause 17 = .ok (.getfield 7, 3) := by decide +kernel
theorem dX11_clause_20 : decode cX11_clause 20 = .ok (.iconst 0, 1) := by decide +kernel
theorem dX11_clause_21 : decode cX11_clause 21 = .ok (.iaload, 1) := by decide +kernel
theorem dX11_clause_22 : decode cX11_clause 22 = .ok (.bipush 6, 2) := by decide +kernel
theorem dX11_clause_24 : decode cX11_clause 24 = .ok (.if_icmp .eq 56, 3) := by decide +kernel
theorem dX11_clause_27 : decode cX11_clause 27 = .ok (.iload_n 1, 1) := by decide +kernel
theorem dX11_clause_28 : decode cX11_clause 28 = .ok (.bipush 116, 2) := by decide +kernel
theorem dX11_clause_30 : decode cX11_clause 30 = .ok (.if_icmp .ne 14, 3) := by decide +kernel
theorem dX11_clause_33 : decode cX11_clause 33 = .ok (.aload_n 0, 1) := by decide +kernel
theorem dX11_clause_34 : decode cX11_clause 34 = .ok (.getfield 7, 3) := by decide +kernel
theorem dX11_clause_37 : decode cX11_clause 37 = .ok (.iconst 1, 1) := by decide +kernel
theorem dX11_clause_38 : decode cX11_clause 38 = .ok (.iaload, 1) := by decide +kernel
theorem dX11_clause_39 : decode cX11_clause 39 = .ok (.bipush 8, 2) := by decide +kernel
theorem dX11_clause_41 : decode cX11_clause 41 = .ok (.if_icmp .eq 39, 3) := by decide +kernel
theorem dX11_clause_44 : decode cX11_clause 44 = .ok (.iload_n 1, 1) := by decide +kernel
theorem dX11_clause_45 : decode cX11_clause 45 = .ok (.bipush 121, 2) := by decide +kernel
theorem dX11_clause_47 : decode cX11_clause 47 = .ok (.if_icmp .ne 15, 3) := by decide +kernel
theorem dX11_clause_50 : decode cX11_clause 50 = .ok (.aload_n 0, 1) := by decide +kernel
theorem dX11_clause_51 : decode cX11_clause 51 = .ok (.getfield 7, 3) := by decide +kernel
theorem dX11_clause_54 : decode cX11_clause 54 = .ok (.iconst 4, 1) := by decide +kernel
theorem dX11_clause_55 : decode cX11_clause 55 = .ok (.iaload, 1) := by decide +kernel
theorem dX11_clause_56 : decode cX11_clause 56 = .ok (.iconst 1, 1) := by decide +kernel
theorem dX11_clause_57 : decode cX11_clause 57 = .ok (.iand, 1) := by decide +kernel
theorem dX11_clause_58 : decode cX11_clause 58 = .ok (.iconst 1, 1) := by decide +kernel
theorem dX11_clause_59 : decode cX11_clause 59 = .ok (.if_icmp .eq 21, 3) := by decide +kernel
theorem dX11_clause_62 : decode cX11_clause 62 = .ok (.iload_n 1, 1) := by decide +kernel
theorem dX11_clause_63 : decode cX11_clause 63 = .ok (.bipush 114, 2) := by decide +kernel
theorem dX11_clause_65 : decode cX11_clause 65 = .ok (.if_icmp .ne 21, 3) := by decide +kernel
theorem dX11_clause_68 : decode cX11_clause 68 = .ok (.aload_n 0, 1) := by decide +kernel
theorem dX11_clause_69 : decode cX11_clause 69 = .ok (.getfield 7, 3) := by decide +kernel
theorem dX11_clause_72 : decode cX11_clause 72 = .ok (.iconst 4, 1) := by decide +kernel
theorem dX11_clause_73 : decode cX11_clause 73 = .ok (.iaload, 1) := by decide +kernel
theorem dX11_clause_74 : decode cX11_clause 74 = .ok (.iconst 2, 1) := by decide +kernel
theorem dX11_clause_75 : decode cX11_clause 75 = .ok (.iand, 1) := by decide +kernel
theorem dX11_clause_76 : decode cX11_clause 76 = .ok (.iconst 2, 1) := by decide +kernel
theorem dX11_clause_77 : decode cX11_clause 77 = .ok (.if_icmp .ne 9, 3) := by decide +kernel
theorem dX11_clause_80 : decode cX11_clause 80 = .ok (.aload_n 0, 1) := by decide +kernel
theorem dX11_clause_81 : decode cX11_clause 81 = .ok (.iconst 3, 1) := by decide +kernel
theorem dX11_clause_82 : decode cX11_clause 82 = .ok (.iload_n 2, 1) := by decide +kernel
theorem dX11_clause_83 : decode cX11_clause 83 = .ok (.invokevirtual 90, 3) := by decide +kernel
theorem dX11_clause_86 : decode cX11_clause 86 = .ok (.iload_n 1, 1) := by decide +kernel
theorem dX11_clause_87 : decode cX11_clause 87 = .ok (.bipush 112, 2) := by decide +kernel
theorem dX11_clause_89 : decode cX11_clause 89 = .ok (.if_icmp .eq 27, 3) := by decide +kernel
theorem dX11_clause_92 : decode cX11_clause 92 = .ok (.iload_n 1, 1) := by decide +kernel
theorem dX11_clause_93 : decode cX11_clause 93 = .ok (.bipush 116, 2) := by decide +kernel
theorem dX11_clause_95 : decode cX11_clause 95 = .ok (.if_icmp .eq 21, 3) := by decide +kernel
theorem dX11_clause_98 : decode cX11_clause 98 = .ok (.iload_n 1, 1) := by decide +kernel
theorem dX11_clause_99 : decode cX11_clause 99 = .ok (.bipush 121, 2) := by decide +kernel
theorem dX11_clause_101 : decode cX11_clause 101 = .ok (.if_icmp .eq 15, 3) := by decide +kernel
theorem dX11_clause_104 : decode cX11_clause 104 = .ok (.iload_n 1, 1) := by decide +kernel
theorem dX11_clause_105 : decode cX11_clause 105 = .ok (.bipush 114, 2) := by decide +kernel
theorem dX11_clause_107 : decode cX11_clause 107 = .ok (.if_icmp .eq 9, 3) := by decide +kernel
theorem dX11_clause_110 : decode cX11_clause 110 = .ok (.aload_n 0, 1) := by decide +kernel
theorem dX11_clause_111 : decode cX11_clause 111 = .ok (.iconst 1, 1) := by decide +kernel
theorem dX11_clause_112 : decode cX11_clause 112 = .ok (.iload_n 2, 1) := by decide +kernel
theorem dX11_clause_113 : decode cX11_clause 113 = .ok (.invokevirtual 90, 3) := by decide +kernel
theorem dX11_clause_116 : decode cX11_clause 116 = .ok (.aload_n 0, 1) := by decide +kernel
theorem dX11_clause_117 : decode cX11_clause 117 = .ok (.getfield 79, 3) := by decide +kernel
theorem dX11_clause_120 : decode cX11_clause 120 = .ok (.ifCond .eq 4, 3) := by decide +kernel
theorem dX11_clause_123 : decode cX11_clause 123 = .ok (.return_, 1) := by decide +kernel
theorem dX11_clause_124 : decode cX11_clause 124 = .ok (.aload_n 0, 1) := by decide +kernel
theorem dX11_clause_125 : decode cX11_clause 125 = .ok (.dup, 1) := by decide +kernel
theorem dX11_clause_126 : decode cX11_clause 126 = .ok (.getfield 76, 3) := by decide +kernel
theorem dX11_clause_129 : decode cX11_clause 129 = .ok (.iconst 1, 1) := by decide +kernel
theorem dX11_clause_130 : decode cX11_clause 130 = .ok (.iadd, 1) := by decide +kernel
theorem dX11_clause_131 : decode cX11_clause 131 = .ok (.putfield 76, 3) := by decide +kernel
theorem dX11_clause_134 : decode cX11_clause 134 = .ok (.iload_n 1, 1) := by decide +kernel
theorem dX11_clause_135 : decode cX11_clause 135 = .ok (.bipush 112, 2) := by decide +kernel
theorem dX11_clause_137 : decode cX11_clause 137 = .ok (.if_icmp .ne 10, 3) := by decide +kernel
theorem dX11_clause_140 : decode cX11_clause 140 = .ok (.aload_n 0, 1) := by decide +kernel
theorem dX11_clause_141 : decode cX11_clause 141 = .ok (.invokevirtual 98, 3) := by decide +kernel
theorem dX11_clause_144 : decode cX11_clause 144 = .ok (.goto 98, 3) := by decide +kernel
theorem dX11_clause_147 : decode cX11_clause 147 = .ok (.iload_n 1, 1) := by decide +kernel
theorem dX11_clause_148 : decode cX11_clause 148 = .ok (.bipush 116, 2) := by decide +kernel
theorem dX11_clause_150 : decode cX11_clause 150 = .ok (.if_icmp .ne 10, 3) := by decide +kernel
theorem dX11_clause_153 : decode cX11_clause 153 = .ok (.aload_n 0, 1) := by decide +kernel
theorem dX11_clause_154 : decode cX11_clause 154 = .ok (.invokevirtual 101, 3) := by decide +kernel
theorem dX11_clause_157 : decode cX11_clause 157 = .ok (.goto 85, 3) := by decide +kernel
theorem dX11_clause_160 : decode cX11_clause 160 = .ok (.iload_n 1, 1) := by decide +kernel
theorem dX11_clause_161 : decode cX11_clause 161 = .ok (.bipush 121, 2) := by decide +kernel
theorem dX11_clause_163 : decode cX11_clause 163 = .ok (.if_icmp .ne 41, 3) := by decide +kernel
theorem dX11_clause_166 : decode cX11_clause 166 = .ok (.aload_n 0, 1) := by decide +kernel
theorem dX11_clause_167 : decode cX11_clause 167 = .ok (.getfield 7, 3) := by decide +kernel
theorem dX11_clause_170 : decode cX11_clause 170 = .ok (.iconst 2, 1) := by decide +kernel
theorem dX11_clause_171 : decode cX11_clause 171 = .ok (.aload_n 0, 1) := by decide +kernel
theorem dX11_clause_172 : decode cX11_clause 172 = .ok (.iconst 1, 1) := by decide +kernel
theorem dX11_clause_173 : decode cX11_clause 173 = .ok (.bipush 8, 2) := by decide +kernel
theorem dX11_clause_175 : decode cX11_clause 175 = .ok (.invokevirtual 94, 3) := by decide +kernel
theorem dX11_clause_178 : decode cX11_clause 178 = .ok (.iastore, 1) := by decide +kernel
theorem dX11_clause_179 : decode cX11_clause 179 = .ok (.aload_n 0, 1) := by decide +kernel
theorem dX11_clause_180 : decode cX11_clause 180 = .ok (.getfield 7, 3) := by decide +kernel
theorem dX11_clause_183 : decode cX11_clause 183 = .ok (.iconst 3, 1) := by decide +kernel
theorem dX11_clause_184 : decode cX11_clause 184 = .ok (.aload_n 0, 1) := by decide +kernel
theorem dX11_clause_185 : decode cX11_clause 185 = .ok (.iconst 0, 1) := by decide +kernel
theorem dX11_clause_186 : decode cX11_clause 186 = .ok (.iconst 1, 1) := by decide +kernel
theorem dX11_clause_187 : decode cX11_clause 187 = .ok (.invokevirtual 94, 3) := by decide +kernel
theorem dX11_clause_190 : decode cX11_clause 190 = .ok (.iastore, 1) := by decide +kernel
theorem dX11_clause_191 : decode cX11_clause 191 = .ok (.aload_n 0, 1) := by decide +kernel
theorem dX11_clause_192 : decode cX11_clause 192 = .ok (.getfield 7, 3) := by decide +kernel
theorem dX11_clause_195 : decode cX11_clause 195 = .ok (.iconst 4, 1) := by decide +kernel
theorem dX11_clause_196 : decode cX11_clause 196 = .ok (.dup2, 1) := by decide +kernel
theorem dX11_clause_197 : decode cX11_clause 197 = .ok (.iaload, 1) := by decide +kernel
theorem dX11_clause_198 : decode cX11_clause 198 = .ok (.iconst 1, 1) := by decide +kernel
theorem dX11_clause_199 : decode cX11_clause 199 = .ok (.ior, 1) := by decide +kernel
theorem dX11_clause_200 : decode cX11_clause 200 = .ok (.iastore, 1) := by decide +kernel
theorem dX11_clause_201 : decode cX11_clause 201 = .ok (.goto 41, 3) := by decide +kernel
theorem dX11_clause_204 : decode cX11_clause 204 = .ok (.iconst 0, 1) := by decide +kernel
theorem dX11_clause_205 : decode cX11_clause 205 = .ok (.istore_n 3, 1) := by decide +kernel
theorem dX11_clause_206 : decode cX11_clause 206 = .ok (.iload_n 3, 1) := by decide +kernel
theorem dX11_clause_207 : decode cX11_clause 207 = .ok (.iconst 4, 1) := by decide +kernel
theorem dX11_clause_208 : decode cX11_clause 208 = .ok (.if_icmp .ge 24, 3) := by decide +kernel
theorem dX11_clause_211 : decode cX11_clause 211 = .ok (.aload_n 0, 1) := by decide +kernel
theorem dX11_clause_212 : decode cX11_clause 212 = .ok (.getfield 7, 3) := by decide +kernel
theorem dX11_clause_215 : decode cX11_clause 215 = .ok (.iconst 5, 1) := by decide +kernel
theorem dX11_clause_216 : decode cX11_clause 216 = .ok (.iload_n 3, 1) := by decide +kernel
theorem dX11_clause_217 : decode cX11_clause 217 = .ok (.iadd, 1) := by decide +kernel
theorem dX11_clause_218 : decode cX11_clause 218 = .ok (.aload_n 0, 1) := by decide +kernel
theorem dX11_clause_219 : decode cX11_clause 219 = .ok (.iconst 0, 1) := by decide +kernel
theorem dX11_clause_220 : decode cX11_clause 220 = .ok (.bipush 99, 2) := by decide +kernel
theorem dX11_clause_222 : decode cX11_clause 222 = .ok (.invokevirtual 94, 3) := by decide +kernel
theorem dX11_clause_225 : decode cX11_clause 225 = .ok (.iastore, 1) := by decide +kernel
theorem dX11_clause_226 : decode cX11_clause 226 = .ok (.iinc 3 1, 3) := by decide +kernel
theorem dX11_clause_229 : decode cX11_clause 229 = .ok (.goto (-23), 3) := by decide +kernel
theorem dX11_clause_232 : decode cX11_clause 232 = .ok (.aload_n 0, 1) := by decide +kernel
theorem dX11_clause_233 : decode cX11_clause 233 = .ok (.getfield 7, 3) := by decide +kernel
theorem dX11_clause_236 : decode cX11_clause 236 = .ok (.iconst 4, 1) := by decide +kernel
theorem dX11_clause_237 : decode cX11_clause 237 = .ok (.dup2, 1) := by decide +kernel
theorem dX11_clause_238 : decode cX11_clause 238 = .ok (.iaload, 1) := by decide +kernel
theorem dX11_clause_239 : decode cX11_clause 239 = .ok (.iconst 2, 1) := by decide +kernel
theorem dX11_clause_240 : decode cX11_clause 240 = .ok (.ior, 1) := by decide +kernel
theorem dX11_clause_241 : decode cX11_clause 241 = .ok (.iastore, 1) := by decide +kernel
theorem dX11_clause_242 : decode cX11_clause 242 = .ok (.aload_n 0, 1) := by decide +kernel
theorem dX11_clause_243 : decode cX11_clause 243 = .ok (.getfield 79, 3) := by decide +kernel
theorem dX11_clause_246 : decode cX11_clause 246 = .ok (.ifCond .ne 21, 3) := by decide +kernel
theorem dX11_clause_249 : decode cX11_clause 249 = .ok (.aload_n 0, 1) := by decide +kernel
theorem dX11_clause_250 : decode cX11_clause 250 = .ok (.invokevirtual 82, 3) := by decide +kernel
theorem dX11_clause_253 : decode cX11_clause 253 = .ok (.bipush 59, 2) := by decide +kernel
theorem dX11_clause_255 : decode cX11_clause 255 = .ok (.if_icmp .eq 12, 3) := by decide +kernel
theorem dX11_clause_258 : decode cX11_clause 258 = .ok (.aload_n 0, 1) := by decide +kernel
theorem dX11_clause_259 : decode cX11_clause 259 = .ok (.iconst 1, 1) := by decide +kernel
theorem dX11_clause_260 : decode cX11_clause 260 = .ok (.aload_n 0, 1) := by decide +kernel
theorem dX11_clause_261 : decode cX11_clause 261 = .ok (.getfield 76, 3) := by decide +kernel
theorem dX11_clause_264 : decode cX11_clause 264 = .ok (.invokevirtual 90, 3) := by decide +kernel
theorem dX11_clause_267 : decode cX11_clause 267 = .ok (.aload_n 0, 1) := by decide +kernel
theorem dX11_clause_268 : decode cX11_clause 268 = .ok (.dup, 1) := by decide +kernel
theorem dX11_clause_269 : decode cX11_clause 269 = .ok (.getfield 76, 3) := by decide +kernel
theorem dX11_clause_272 : decode cX11_clause 272 = .ok (.iconst 1, 1) := by decide +kernel
theorem dX11_clause_273 : decode cX11_clause 273 = .ok (.iadd, 1) := by decide +kernel
theorem dX11_clause_274 : decode cX11_clause 274 = .ok (.putfield 76, 3) := by decide +kernel
theorem dX11_clause_277 : decode cX11_clause 277 = .ok (.return_, 1) := by decide +kernel
set_option maxRecDepth 20000 in
theorem ggX11_town_X11_plain : GoodIn wsX11_town wsX11_plain := goodIn_r _ [10, 11, 56, 57, 58, 59, 60, 61, 62, 63, 64, 65, 66, 67, 68, 69, 70, 71, 72, 73, 74, 75, 76, 77, 78, 79, 80, 81, 82] (by decide +kernel) (by decide +kernel)
set_option maxRecDepth 20000 in
theorem gX11_town_X11_plain : GoodIn wsX11_town (wsV RX11 59 RX11 yX11_plain wsX11_plain) := goodIn_app (goodIn_of _ (by decide +kernel)) ggX11_town_X11_plain
set_option maxRecDepth 20000 in
theorem ggX11_town_X11_here : GoodIn wsX11_town wsX11_here := goodIn_r _ [15, 1, 4, 16, 56, 57, 58, 59, 60, 61, 62, 63, 64, 65, 66, 67, 68, 69, 70, 71, 72, 73, 74, 75, 76, 77, 78, 79, 80, 81, 82] (by decide +kernel) (by decide +kernel)
set_option maxRecDepth 20000 in
theorem gX11_town_X11_here : GoodIn wsX11_town (wsV RX11 82 RX11 yX11_here wsX11_here) := goodIn_app (goodIn_of _ (by decide +kernel)) ggX11_town_X11_here
set_option maxRecDepth 20000 in
theorem ggX11_town_X11_clause : GoodIn wsX11_town wsX11_clause := goodIn_r _ [20, 1, 11, 2, 12, 13, 14, 9, 15, 4, 16, 21, 22, 23, 24, 3, 25, 26, 27, 28, 29, 30, 31, 32, 33, 34, 35, 36, 37, 38, 39, 40, 41, 56, 57, 58, 59, 60, 61, 62, 63, 64, 65, 66, 67, 68, 69, 70, 71, 72, 73, 74, 75, 76, 77, 78, 79, 80, 81, 82] (by decide +kernel) (by decide +kernel)
set_option maxRecDepth 20000 in
theorem gX11_town_X11_clause : GoodIn wsX11_town (wsV RX11 104 RX11 yX11_clause wsX11_clause) := goodIn_app (goodIn_of _ (by decide +kernel)) ggX11_town_X11_clause
set_option maxRecDepth 20000 in
theorem ggX11_town_X11_starts : GoodIn wsX11_town wsX11_starts := goodIn_r _ [45, 5, 11, 46, 47, 48, 49, 50, 51, 52, 53, 54, 9, 55, 56, 57, 58, 59, 60, 61, 62, 63, 64, 65, 66, 67, 68, 69, 70, 71, 72, 73, 74, 75, 76, 77, 78, 79, 80, 81, 82] (by decide +kernel) (by decide +kernel)
set_option maxRecDepth 20000 in
theorem gX11_town_X11_starts : GoodIn wsX11_town (wsV RX11 62 RX11 yX11_starts wsX11_starts) := goodIn_app (goodIn_of _ (by decide +kernel)) ggX11_town_X11_starts
theorem dX11_town_0 : decode cX11_town 0 = .ok (.aload_n 0, 1) := by decide +kernel
theorem dX11_town_1 : decode cX11_town 1 = .ok (.iconst 0, 1) := by decide +kernel
theorem dX11_town_2 : decode cX11_town 2 = .ok (.putfield 76, 3) := by decide +kernel
theorem dX11_town_5 : decode cX11_town 5 = .ok (.aload_n 0, 1) := by decide +kernel
theorem dX11_town_6 : decode cX11_town 6 = .ok (.iconst 0, 1) := by decide +kernel
theorem dX11_town_7 : decode cX11_town 7 = .ok (.putfield 79, 3) := by decide +kernel
theorem dX11_town_10 : decode cX11_town 10 = .ok (.aload_n 0, 1) := by decide +kernel
theorem dX11_town_11 : decode cX11_town 11 = .ok (.iconst (-1), 1) := by decide +kernel
theorem dX11_town_12 : decode cX11_town 12 = .ok (.putfield 55, 3) := by decide +kernel
theorem dX11_town_15 : decode cX11_town 15 = .ok (.aload_n 0, 1) := by decide +kernel
theorem dX11_town_16 : decode cX11_town 16 = .ok (.invokevirtual 59, 3) := by decide +kernel
theorem dX11_town_19 : decode cX11_town 19 = .ok (.aload_n 0, 1) := by decide +kernel
theorem dX11_town_20 : decode cX11_town 20 = .ok (.getfield 79, 3) := by decide +kernel
theorem dX11_town_23 : decode cX11_town 23 = .ok (.ifCond .ne 17, 3) := by decide +kernel
theorem dX11_town_26 : decode cX11_town 26 = .ok (.aload_n 0, 1) := by decide +kernel
theorem dX11_town_27 : decode cX11_town 27 = .ok (.invokevirtual 82, 3) := by decide +kernel
theorem dX11_town_30 : decode cX11_town 30 = .ok (.ifCond .lt 10, 3) := by decide +kernel
theorem dX11_town_33 : decode cX11_town 33 = .ok (.aload_n 0, 1) := by decide +kernel
theorem dX11_town_34 : decode cX11_town 34 = .ok (.invokevirtual 104, 3) := by decide +kernel
theorem dX11_town_37 : decode cX11_town 37 = .ok (.goto (-18), 3) := by decide +kernel
theorem dX11_town_40 : decode cX11_town 40 = .ok (.aload_n 0, 1) := by decide +kernel
theorem dX11_town_41 : decode cX11_town 41 = .ok (.iconst 0, 1) := by decide +kernel
theorem dX11_town_42 : decode cX11_town 42 = .ok (.putfield 72, 3) := by decide +kernel
theorem dX11_town_45 : decode cX11_town 45 = .ok (.aload_n 0, 1) := by decide +kernel
theorem dX11_town_46 : decode cX11_town 46 = .ok (.getfield 79, 3) := by decide +kernel
theorem dX11_town_49 : decode cX11_town 49 = .ok (.ifCond .eq 11, 3) := by decide +kernel
theorem dX11_town_52 : decode cX11_town 52 = .ok (.bipush (-10), 2) := by decide +kernel
theorem dX11_town_54 : decode cX11_town 54 = .ok (.aload_n 0, 1) := by decide +kernel
theorem dX11_town_55 : decode cX11_town 55 = .ok (.getfield 79, 3) := by decide +kernel
theorem dX11_town_58 : decode cX11_town 58 = .ok (.isub, 1) := by decide +kernel
theorem dX11_town_59 : decode cX11_town 59 = .ok (.ireturn, 1) := by decide +kernel
theorem dX11_town_60 : decode cX11_town 60 = .ok (.aload_n 0, 1) := by decide +kernel
theorem dX11_town_61 : decode cX11_town 61 = .ok (.invokevirtual 62, 3) := by decide +kernel
theorem dX11_town_64 : decode cX11_town 64 = .ok (.aload_n 0, 1) := by decide +kernel
theorem dX11_town_65 : decode cX11_town 65 = .ok (.getfield 13, 3) := by decide +kernel
theorem dX11_town_68 : decode cX11_town 68 = .ok (.iconst 0, 1) := by decide +kernel
theorem dX11_town_69 : decode cX11_town 69 = .ok (.iaload, 1) := by decide +kernel
theorem dX11_town_70 : decode cX11_town 70 = .ok (.ireturn, 1) := by decide +kernel
theorem dX11_fault_0 : decode cX11_fault 0 = .ok (.aload_n 0, 1) := by decide +kernel
theorem dX11_fault_1 : decode cX11_fault 1 = .ok (.getfield 55, 3) := by decide +kernel
theorem dX11_fault_4 : decode cX11_fault 4 = .ok (.ireturn, 1) := by decide +kernel
set_option maxRecDepth 20000 in
theorem ggX11_starts_X11_all : GoodIn wsX11_starts wsX11_all := goodIn_r _ [13, 1, 14, 15, 16, 17, 18, 19, 20, 21, 22, 23, 24, 25, 26, 27, 28, 29, 30, 31, 32, 33, 34, 35, 36, 37, 38, 39, 40] (by decide +kernel) (by decide +kernel)
set_option maxRecDepth 20000 in
theorem gX11_starts_X11_all : GoodIn wsX11_starts (wsV RX11 107 RX11 yX11_all wsX11_all) := goodIn_app (goodIn_of _ (by decide +kernel)) ggX11_starts_X11_all
theorem dX11_starts_0 : decode cX11_starts 0 = .ok (.iconst 0, 1) := by decide +kernel
theorem dX11_starts_1 : decode cX11_starts 1 = .ok (.istore_n 1, 1) := by decide +kernel
theorem dX11_starts_2 : decode cX11_starts 2 = .ok (.iload_n 1, 1) := by decide +kernel
theorem dX11_starts_3 : decode cX11_starts 3 = .ok (.bipush 45, 2) := by decide +kernel
theorem dX11_starts_5 : decode cX11_starts 5 = .ok (.if_icmp .ge 21, 3) := by decide +kernel
theorem dX11_starts_8 : decode cX11_starts 8 = .ok (.aload_n 0, 1) := by decide +kernel
theorem dX11_starts_9 : decode cX11_starts 9 = .ok (.getfield 13, 3) := by decide +kernel
theorem dX11_starts_12 : decode cX11_starts 12 = .ok (.iload_n 1, 1) := by decide +kernel
theorem dX11_starts_13 : decode cX11_starts 13 = .ok (.aload_n 0, 1) := by decide +kernel
theorem dX11_starts_14 : decode cX11_starts 14 = .ok (.getfield 7, 3) := by decide +kernel
theorem dX11_starts_17 : decode cX11_starts 17 = .ok (.iload_n 1, 1) := by decide +kernel
theorem dX11_starts_18 : decode cX11_starts 18 = .ok (.iaload, 1) := by decide +kernel
theorem dX11_starts_19 : decode cX11_starts 19 = .ok (.iastore, 1) := by decide +kernel
theorem dX11_starts_20 : decode cX11_starts 20 = .ok (.iinc 1 1, 3) := by decide +kernel
theorem dX11_starts_23 : decode cX11_starts 23 = .ok (.goto (-21), 3) := by decide +kernel
theorem dX11_starts_26 : decode cX11_starts 26 = .ok (.iconst 0, 1) := by decide +kernel
theorem dX11_starts_27 : decode cX11_starts 27 = .ok (.istore_n 1, 1) := by decide +kernel
theorem dX11_starts_28 : decode cX11_starts 28 = .ok (.iload_n 1, 1) := by decide +kernel
theorem dX11_starts_29 : decode cX11_starts 29 = .ok (.bipush 39, 2) := by decide +kernel
theorem dX11_starts_31 : decode cX11_starts 31 = .ok (.if_icmp .ge 16, 3) := by decide +kernel
theorem dX11_starts_34 : decode cX11_starts 34 = .ok (.aload_n 0, 1) := by decide +kernel
theorem dX11_starts_35 : decode cX11_starts 35 = .ok (.getfield 19, 3) := by decide +kernel
theorem dX11_starts_38 : decode cX11_starts 38 = .ok (.iload_n 1, 1) := by decide +kernel
theorem dX11_starts_39 : decode cX11_starts 39 = .ok (.iconst 0, 1) := by decide +kernel
theorem dX11_starts_40 : decode cX11_starts 40 = .ok (.iastore, 1) := by decide +kernel
theorem dX11_starts_41 : decode cX11_starts 41 = .ok (.iinc 1 1, 3) := by decide +kernel
theorem dX11_starts_44 : decode cX11_starts 44 = .ok (.goto (-16), 3) := by decide +kernel
theorem dX11_starts_47 : decode cX11_starts 47 = .ok (.aload_n 0, 1) := by decide +kernel
theorem dX11_starts_48 : decode cX11_starts 48 = .ok (.getfield 19, 3) := by decide +kernel
theorem dX11_starts_51 : decode cX11_starts 51 = .ok (.iconst 2, 1) := by decide +kernel
theorem dX11_starts_52 : decode cX11_starts 52 = .ok (.aload_n 0, 1) := by decide +kernel
theorem dX11_starts_53 : decode cX11_starts 53 = .ok (.invokevirtual 107, 3) := by decide +kernel
theorem dX11_starts_56 : decode cX11_starts 56 = .ok (.iastore, 1) := by decide +kernel
theorem dX11_starts_57 : decode cX11_starts 57 = .ok (.iconst 0, 1) := by decide +kernel
theorem dX11_starts_58 : decode cX11_starts 58 = .ok (.istore_n 1, 1) := by decide +kernel
theorem dX11_starts_59 : decode cX11_starts 59 = .ok (.iload_n 1, 1) := by decide +kernel
theorem dX11_starts_60 : decode cX11_starts 60 = .ok (.iconst 2, 1) := by decide +kernel
theorem dX11_starts_61 : decode cX11_starts 61 = .ok (.aload_n 0, 1) := by decide +kernel
theorem dX11_starts_62 : decode cX11_starts 62 = .ok (.getfield 13, 3) := by decide +kernel
theorem dX11_starts_65 : decode cX11_starts 65 = .ok (.iconst 0, 1) := by decide +kernel
theorem dX11_starts_66 : decode cX11_starts 66 = .ok (.iaload, 1) := by decide +kernel
theorem dX11_starts_67 : decode cX11_starts 67 = .ok (.imul, 1) := by decide +kernel
theorem dX11_starts_68 : decode cX11_starts 68 = .ok (.if_icmp .ge 26, 3) := by decide +kernel
theorem dX11_starts_71 : decode cX11_starts 71 = .ok (.aload_n 0, 1) := by decide +kernel
theorem dX11_starts_72 : decode cX11_starts 72 = .ok (.getfield 19, 3) := by decide +kernel
theorem dX11_starts_75 : decode cX11_starts 75 = .ok (.iconst 3, 1) := by decide +kernel
theorem dX11_starts_76 : decode cX11_starts 76 = .ok (.iload_n 1, 1) := by decide +kernel
theorem dX11_starts_77 : decode cX11_starts 77 = .ok (.iadd, 1) := by decide +kernel
theorem dX11_starts_78 : decode cX11_starts 78 = .ok (.aload_n 0, 1) := by decide +kernel
theorem dX11_starts_79 : decode cX11_starts 79 = .ok (.getfield 13, 3) := by decide +kernel
theorem dX11_starts_82 : decode cX11_starts 82 = .ok (.bipush 9, 2) := by decide +kernel
theorem dX11_starts_84 : decode cX11_starts 84 = .ok (.iload_n 1, 1) := by decide +kernel
theorem dX11_starts_85 : decode cX11_starts 85 = .ok (.iadd, 1) := by decide +kernel
theorem dX11_starts_86 : decode cX11_starts 86 = .ok (.iaload, 1) := by decide +kernel
theorem dX11_starts_87 : decode cX11_starts 87 = .ok (.iastore, 1) := by decide +kernel
theorem dX11_starts_88 : decode cX11_starts 88 = .ok (.iinc 1 1, 3) := by decide +kernel
theorem dX11_starts_91 : decode cX11_starts 91 = .ok (.goto (-32), 3) := by decide +kernel
theorem dX11_starts_94 : decode cX11_starts 94 = .ok (.iconst 0, 1) := by decide +kernel
theorem dX11_starts_95 : decode cX11_starts 95 = .ok (.istore_n 1, 1) := by decide +kernel
theorem dX11_starts_96 : decode cX11_starts 96 = .ok (.iload_n 1, 1) := by decide +kernel
theorem dX11_starts_97 : decode cX11_starts 97 = .ok (.aload_n 0, 1) := by decide +kernel
theorem dX11_starts_98 : decode cX11_starts 98 = .ok (.getfield 13, 3) := by decide +kernel
theorem dX11_starts_101 : decode cX11_starts 101 = .ok (.iconst 1, 1) := by decide +kernel
theorem dX11_starts_102 : decode cX11_starts 102 = .ok (.iaload, 1) := by decide +kernel
theorem dX11_starts_103 : decode cX11_starts 103 = .ok (.if_icmp .ge 71, 3) := by decide +kernel
theorem dX11_starts_106 : decode cX11_starts 106 = .ok (.aload_n 0, 1) := by decide +kernel
theorem dX11_starts_107 : decode cX11_starts 107 = .ok (.getfield 19, 3) := by decide +kernel
theorem dX11_starts_110 : decode cX11_starts 110 = .ok (.bipush 15, 2) := by decide +kernel
theorem dX11_starts_112 : decode cX11_starts 112 = .ok (.iconst 3, 1) := by decide +kernel
theorem dX11_starts_113 : decode cX11_starts 113 = .ok (.iload_n 1, 1) := by decide +kernel
theorem dX11_starts_114 : decode cX11_starts 114 = .ok (.imul, 1) := by decide +kernel
theorem dX11_starts_115 : decode cX11_starts 115 = .ok (.iadd, 1) := by decide +kernel
theorem dX11_starts_116 : decode cX11_starts 116 = .ok (.aload_n 0, 1) := by decide +kernel
theorem dX11_starts_117 : decode cX11_starts 117 = .ok (.getfield 13, 3) := by decide +kernel
theorem dX11_starts_120 : decode cX11_starts 120 = .ok (.bipush 21, 2) := by decide +kernel
theorem dX11_starts_122 : decode cX11_starts 122 = .ok (.iconst 3, 1) := by decide +kernel
theorem dX11_starts_123 : decode cX11_starts 123 = .ok (.iload_n 1, 1) := by decide +kernel
theorem dX11_starts_124 : decode cX11_starts 124 = .ok (.imul, 1) := by decide +kernel
theorem dX11_starts_125 : decode cX11_starts 125 = .ok (.iadd, 1) := by decide +kernel
theorem dX11_starts_126 : decode cX11_starts 126 = .ok (.iaload, 1) := by decide +kernel
theorem dX11_starts_127 : decode cX11_starts 127 = .ok (.iastore, 1) := by decide +kernel
theorem dX11_starts_128 : decode cX11_starts 128 = .ok (.aload_n 0, 1) := by decide +kernel
theorem dX11_starts_129 : decode cX11_starts 129 = .ok (.getfield 19, 3) := by decide +kernel
theorem dX11_starts_132 : decode cX11_starts 132 = .ok (.bipush 15, 2) := by decide +kernel
theorem dX11_starts_134 : decode cX11_starts 134 = .ok (.iconst 3, 1) := by decide +kernel
theorem dX11_starts_135 : decode cX11_starts 135 = .ok (.iload_n 1, 1) := by decide +kernel
theorem dX11_starts_136 : decode cX11_starts 136 = .ok (.imul, 1) := by decide +kernel
theorem dX11_starts_137 : decode cX11_starts 137 = .ok (.iadd, 1) := by decide +kernel
theorem dX11_starts_138 : decode cX11_starts 138 = .ok (.iconst 1, 1) := by decide +kernel
theorem dX11_starts_139 : decode cX11_starts 139 = .ok (.iadd, 1) := by decide +kernel
theorem dX11_starts_140 : decode cX11_starts 140 = .ok (.iconst (-1), 1) := by decide +kernel
theorem dX11_starts_141 : decode cX11_starts 141 = .ok (.iastore, 1) := by decide +kernel
theorem dX11_starts_142 : decode cX11_starts 142 = .ok (.aload_n 0, 1) := by decide +kernel
theorem dX11_starts_143 : decode cX11_starts 143 = .ok (.getfield 19, 3) := by decide +kernel
theorem dX11_starts_146 : decode cX11_starts 146 = .ok (.bipush 15, 2) := by decide +kernel
theorem dX11_starts_148 : decode cX11_starts 148 = .ok (.iconst 3, 1) := by decide +kernel
theorem dX11_starts_149 : decode cX11_starts 149 = .ok (.iload_n 1, 1) := by decide +kernel
theorem dX11_starts_150 : decode cX11_starts 150 = .ok (.imul, 1) := by decide +kernel
theorem dX11_starts_151 : decode cX11_starts 151 = .ok (.iadd, 1) := by decide +kernel
theorem dX11_starts_152 : decode cX11_starts 152 = .ok (.iconst 2, 1) := by decide +kernel
theorem dX11_starts_153 : decode cX11_starts 153 = .ok (.iadd, 1) := by decide +kernel
theorem dX11_starts_154 : decode cX11_starts 154 = .ok (.aload_n 0, 1) := by decide +kernel
theorem dX11_starts_155 : decode cX11_starts 155 = .ok (.getfield 13, 3) := by decide +kernel
theorem dX11_starts_158 : decode cX11_starts 158 = .ok (.bipush 21, 2) := by decide +kernel
theorem dX11_starts_160 : decode cX11_starts 160 = .ok (.iconst 3, 1) := by decide +kernel
theorem dX11_starts_161 : decode cX11_starts 161 = .ok (.iload_n 1, 1) := by decide +kernel
theorem dX11_starts_162 : decode cX11_starts 162 = .ok (.imul, 1) := by decide +kernel
theorem dX11_starts_163 : decode cX11_starts 163 = .ok (.iadd, 1) := by decide +kernel
theorem dX11_starts_164 : decode cX11_starts 164 = .ok (.iconst 2, 1) := by decide +kernel
theorem dX11_starts_165 : decode cX11_starts 165 = .ok (.iadd, 1) := by decide +kernel
theorem dX11_starts_166 : decode cX11_starts 166 = .ok (.iaload, 1) := by decide +kernel
theorem dX11_starts_167 : decode cX11_starts 167 = .ok (.iastore, 1) := by decide +kernel
theorem dX11_starts_168 : decode cX11_starts 168 = .ok (.iinc 1 1, 3) := by decide +kernel
theorem dX11_starts_171 : decode cX11_starts 171 = .ok (.goto (-75), 3) := by decide +kernel
theorem dX11_starts_174 : decode cX11_starts 174 = .ok (.aload_n 0, 1) := by decide +kernel
theorem dX11_starts_175 : decode cX11_starts 175 = .ok (.iconst 0, 1) := by decide +kernel
theorem dX11_starts_176 : decode cX11_starts 176 = .ok (.putfield 110, 3) := by decide +kernel
theorem dX11_starts_179 : decode cX11_starts 179 = .ok (.aload_n 0, 1) := by decide +kernel
theorem dX11_starts_180 : decode cX11_starts 180 = .ok (.iconst 0, 1) := by decide +kernel
theorem dX11_starts_181 : decode cX11_starts 181 = .ok (.putfield 113, 3) := by decide +kernel
theorem dX11_starts_184 : decode cX11_starts 184 = .ok (.aload_n 0, 1) := by decide +kernel
theorem dX11_starts_185 : decode cX11_starts 185 = .ok (.iconst 0, 1) := by decide +kernel
theorem dX11_starts_186 : decode cX11_starts 186 = .ok (.putfield 116, 3) := by decide +kernel
theorem dX11_starts_189 : decode cX11_starts 189 = .ok (.aload_n 0, 1) := by decide +kernel
theorem dX11_starts_190 : decode cX11_starts 190 = .ok (.iconst 0, 1) := by decide +kernel
theorem dX11_starts_191 : decode cX11_starts 191 = .ok (.putfield 119, 3) := by decide +kernel
theorem dX11_starts_194 : decode cX11_starts 194 = .ok (.aload_n 0, 1) := by decide +kernel
theorem dX11_starts_195 : decode cX11_starts 195 = .ok (.getfield 52, 3) := by decide +kernel
theorem dX11_starts_198 : decode cX11_starts 198 = .ok (.iconst 0, 1) := by decide +kernel
theorem dX11_starts_199 : decode cX11_starts 199 = .ok (.iconst 0, 1) := by decide +kernel
theorem dX11_starts_200 : decode cX11_starts 200 = .ok (.iastore, 1) := by decide +kernel
theorem dX11_starts_201 : decode cX11_starts 201 = .ok (.aload_n 0, 1) := by decide +kernel
theorem dX11_starts_202 : decode cX11_starts 202 = .ok (.getfield 52, 3) := by decide +kernel
theorem dX11_starts_205 : decode cX11_starts 205 = .ok (.bipush 41, 2) := by decide +kernel
theorem dX11_starts_207 : decode cX11_starts 207 = .ok (.iconst 0, 1) := by decide +kernel
theorem dX11_starts_208 : decode cX11_starts 208 = .ok (.iastore, 1) := by decide +kernel
theorem dX11_starts_209 : decode cX11_starts 209 = .ok (.return_, 1) := by decide +kernel
theorem dX11_all_0 : decode cX11_all 0 = .ok (.iconst 1, 1) := by decide +kernel
theorem dX11_all_1 : decode cX11_all 1 = .ok (.aload_n 0, 1) := by decide +kernel
theorem dX11_all_2 : decode cX11_all 2 = .ok (.getfield 13, 3) := by decide +kernel
theorem dX11_all_5 : decode cX11_all 5 = .ok (.iconst 1, 1) := by decide +kernel
theorem dX11_all_6 : decode cX11_all 6 = .ok (.iaload, 1) := by decide +kernel
theorem dX11_all_7 : decode cX11_all 7 = .ok (.ishl, 1) := by decide +kernel
theorem dX11_all_8 : decode cX11_all 8 = .ok (.iconst 1, 1) := by decide +kernel
theorem dX11_all_9 : decode cX11_all 9 = .ok (.isub, 1) := by decide +kernel
theorem dX11_all_10 : decode cX11_all 10 = .ok (.ireturn, 1) := by decide +kernel
set_option maxRecDepth 20000 in
theorem ggX11_isPerson_X11_in : GoodIn wsX11_isPerson wsX11_in := goodIn_r _ [5] (by decide +kernel) (by decide +kernel)
set_option maxRecDepth 20000 in
theorem gX11_isPerson_X11_in : GoodIn wsX11_isPerson (va_wsS RX11 67 yX11_in wsX11_in) := goodIn_app (goodIn_of _ (by decide +kernel)) ggX11_isPerson_X11_in
theorem dX11_isPerson_0 : decode cX11_isPerson 0 = .ok (.iload_n 1, 1) := by decide +kernel
theorem dX11_isPerson_1 : decode cX11_isPerson 1 = .ok (.i2l, 1) := by decide +kernel
theorem dX11_isPerson_2 : decode cX11_isPerson 2 = .ok (.lconst 0, 1) := by decide +kernel
theorem dX11_isPerson_3 : decode cX11_isPerson 3 = .ok (.aload_n 0, 1) := by decide +kernel
theorem dX11_isPerson_4 : decode cX11_isPerson 4 = .ok (.getfield 13, 3) := by decide +kernel
theorem dX11_isPerson_7 : decode cX11_isPerson 7 = .ok (.iconst 0, 1) := by decide +kernel
theorem dX11_isPerson_8 : decode cX11_isPerson 8 = .ok (.iaload, 1) := by decide +kernel
theorem dX11_isPerson_9 : decode cX11_isPerson 9 = .ok (.iconst 1, 1) := by decide +kernel
theorem dX11_isPerson_10 : decode cX11_isPerson 10 = .ok (.isub, 1) := by decide +kernel
theorem dX11_isPerson_11 : decode cX11_isPerson 11 = .ok (.i2l, 1) := by decide +kernel
theorem dX11_isPerson_12 : decode cX11_isPerson 12 = .ok (.invokestatic 67, 3) := by decide +kernel
theorem dX11_isPerson_15 : decode cX11_isPerson 15 = .ok (.ireturn, 1) := by decide +kernel
set_option maxRecDepth 20000 in
theorem ggX11_isTicket_X11_in : GoodIn wsX11_isTicket wsX11_in := goodIn_r _ [5] (by decide +kernel) (by decide +kernel)
set_option maxRecDepth 20000 in
theorem gX11_isTicket_X11_in : GoodIn wsX11_isTicket (va_wsS RX11 67 yX11_in wsX11_in) := goodIn_app (goodIn_of _ (by decide +kernel)) ggX11_isTicket_X11_in
theorem dX11_isTicket_0 : decode cX11_isTicket 0 = .ok (.iload_n 1, 1) := by decide +kernel
theorem dX11_isTicket_1 : decode cX11_isTicket 1 = .ok (.i2l, 1) := by decide +kernel
theorem dX11_isTicket_2 : decode cX11_isTicket 2 = .ok (.lconst 0, 1) := by decide +kernel
theorem dX11_isTicket_3 : decode cX11_isTicket 3 = .ok (.aload_n 0, 1) := by decide +kernel
theorem dX11_isTicket_4 : decode cX11_isTicket 4 = .ok (.getfield 13, 3) := by decide +kernel
theorem dX11_isTicket_7 : decode cX11_isTicket 7 = .ok (.iconst 1, 1) := by decide +kernel
theorem dX11_isTicket_8 : decode cX11_isTicket 8 = .ok (.iaload, 1) := by decide +kernel
theorem dX11_isTicket_9 : decode cX11_isTicket 9 = .ok (.iconst 1, 1) := by decide +kernel
theorem dX11_isTicket_10 : decode cX11_isTicket 10 = .ok (.isub, 1) := by decide +kernel
theorem dX11_isTicket_11 : decode cX11_isTicket 11 = .ok (.i2l, 1) := by decide +kernel
theorem dX11_isTicket_12 : decode cX11_isTicket 12 = .ok (.invokestatic 67, 3) := by decide +kernel
theorem dX11_isTicket_15 : decode cX11_isTicket 15 = .ok (.ireturn, 1) := by decide +kernel
theorem dX11_weight_0 : decode cX11_weight 0 = .ok (.aload_n 0, 1) := by decide +kernel
theorem dX11_weight_1 : decode cX11_weight 1 = .ok (.getfield 13, 3) := by decide +kernel
theorem dX11_weight_4 : decode cX11_weight 4 = .ok (.bipush 21, 2) := by decide +kernel
theorem dX11_weight_6 : decode cX11_weight 6 = .ok (.iconst 3, 1) := by decide +kernel
theorem dX11_weight_7 : decode cX11_weight 7 = .ok (.iload_n 1, 1) := by decide +kernel
theorem dX11_weight_8 : decode cX11_weight 8 = .ok (.imul, 1) := by decide +kernel
theorem dX11_weight_9 : decode cX11_weight 9 = .ok (.iadd, 1) := by decide +kernel
theorem dX11_weight_10 : decode cX11_weight 10 = .ok (.iconst 1, 1) := by decide +kernel
theorem dX11_weight_11 : decode cX11_weight 11 = .ok (.iadd, 1) := by decide +kernel
theorem dX11_weight_12 : decode cX11_weight 12 = .ok (.iaload, 1) := by decide +kernel
theorem dX11_weight_13 : decode cX11_weight 13 = .ok (.ireturn, 1) := by decide +kernel
set_option maxRecDepth 20000 in
theorem ggX11_weightOf_X11_weight : GoodIn wsX11_weightOf wsX11_weight := goodIn_r _ [6, 1, 7, 8, 9, 10, 11, 12, 13, 14, 15, 16, 17, 18, 19, 20, 21, 22, 23, 24, 25, 26, 27, 28, 29, 30, 31, 32, 33] (by decide +kernel) (by decide +kernel)
set_option maxRecDepth 20000 in
theorem gX11_weightOf_X11_weight : GoodIn wsX11_weightOf (wsV RX11 122 RX11 yX11_weight wsX11_weight) := goodIn_app (goodIn_of _ (by decide +kernel)) ggX11_weightOf_X11_weight
theorem dX11_weightOf_0 : decode cX11_weightOf 0 = .ok (.iconst 0, 1) := by decide +kernel
theorem dX11_weightOf_1 : decode cX11_weightOf 1 = .ok (.istore_n 2, 1) := by decide +kernel
theorem dX11_weightOf_2 : decode cX11_weightOf 2 = .ok (.iconst 0, 1) := by decide +kernel
theorem dX11_weightOf_3 : decode cX11_weightOf 3 = .ok (.istore_n 3, 1) := by decide +kernel
theorem dX11_weightOf_4 : decode cX11_weightOf 4 = .ok (.iload_n 3, 1) := by decide +kernel
theorem dX11_weightOf_5 : decode cX11_weightOf 5 = .ok (.aload_n 0, 1) := by decide +kernel
theorem dX11_weightOf_6 : decode cX11_weightOf 6 = .ok (.getfield 13, 3) := by decide +kernel
theorem dX11_weightOf_9 : decode cX11_weightOf 9 = .ok (.iconst 1, 1) := by decide +kernel
theorem dX11_weightOf_10 : decode cX11_weightOf 10 = .ok (.iaload, 1) := by decide +kernel
theorem dX11_weightOf_11 : decode cX11_weightOf 11 = .ok (.if_icmp .ge 30, 3) := by decide +kernel
theorem dX11_weightOf_14 : decode cX11_weightOf 14 = .ok (.iload_n 2, 1) := by decide +kernel
theorem dX11_weightOf_15 : decode cX11_weightOf 15 = .ok (.iload_n 1, 1) := by decide +kernel
theorem dX11_weightOf_16 : decode cX11_weightOf 16 = .ok (.iload_n 3, 1) := by decide +kernel
theorem dX11_weightOf_17 : decode cX11_weightOf 17 = .ok (.ishr, 1) := by decide +kernel
theorem dX11_weightOf_18 : decode cX11_weightOf 18 = .ok (.iconst 1, 1) := by decide +kernel
theorem dX11_weightOf_19 : decode cX11_weightOf 19 = .ok (.iand, 1) := by decide +kernel
theorem dX11_weightOf_20 : decode cX11_weightOf 20 = .ok (.iconst 1, 1) := by decide +kernel
theorem dX11_weightOf_21 : decode cX11_weightOf 21 = .ok (.if_icmp .ne 11, 3) := by decide +kernel
theorem dX11_weightOf_24 : decode cX11_weightOf 24 = .ok (.aload_n 0, 1) := by decide +kernel
theorem dX11_weightOf_25 : decode cX11_weightOf 25 = .ok (.iload_n 3, 1) := by decide +kernel
theorem dX11_weightOf_26 : decode cX11_weightOf 26 = .ok (.invokevirtual 122, 3) := by decide +kernel
theorem dX11_weightOf_29 : decode cX11_weightOf 29 = .ok (.goto 4, 3) := by decide +kernel
theorem dX11_weightOf_32 : decode cX11_weightOf 32 = .ok (.iconst 0, 1) := by decide +kernel
theorem dX11_weightOf_33 : decode cX11_weightOf 33 = .ok (.iadd, 1) := by decide +kernel
theorem dX11_weightOf_34 : decode cX11_weightOf 34 = .ok (.istore_n 2, 1) := by decide +kernel
theorem dX11_weightOf_35 : decode cX11_weightOf 35 = .ok (.iinc 3 1, 3) := by decide +kernel
theorem dX11_weightOf_38 : decode cX11_weightOf 38 = .ok (.goto (-34), 3) := by decide +kernel
theorem dX11_weightOf_41 : decode cX11_weightOf 41 = .ok (.iload_n 2, 1) := by decide +kernel
theorem dX11_weightOf_42 : decode cX11_weightOf 42 = .ok (.ireturn, 1) := by decide +kernel
theorem dX11_who_0 : decode cX11_who 0 = .ok (.aload_n 0, 1) := by decide +kernel
theorem dX11_who_1 : decode cX11_who 1 = .ok (.getfield 19, 3) := by decide +kernel
theorem dX11_who_4 : decode cX11_who 4 = .ok (.bipush 15, 2) := by decide +kernel
theorem dX11_who_6 : decode cX11_who 6 = .ok (.iconst 3, 1) := by decide +kernel
theorem dX11_who_7 : decode cX11_who 7 = .ok (.iload_n 1, 1) := by decide +kernel
theorem dX11_who_8 : decode cX11_who 8 = .ok (.imul, 1) := by decide +kernel
theorem dX11_who_9 : decode cX11_who 9 = .ok (.iadd, 1) := by decide +kernel
theorem dX11_who_10 : decode cX11_who 10 = .ok (.iconst 1, 1) := by decide +kernel
theorem dX11_who_11 : decode cX11_who 11 = .ok (.iadd, 1) := by decide +kernel
theorem dX11_who_12 : decode cX11_who 12 = .ok (.iaload, 1) := by decide +kernel
theorem dX11_who_13 : decode cX11_who 13 = .ok (.istore_n 2, 1) := by decide +kernel
theorem dX11_who_14 : decode cX11_who 14 = .ok (.iload_n 2, 1) := by decide +kernel
theorem dX11_who_15 : decode cX11_who 15 = .ok (.iconst (-1), 1) := by decide +kernel
theorem dX11_who_16 : decode cX11_who 16 = .ok (.if_icmp .ne 17, 3) := by decide +kernel
theorem dX11_who_19 : decode cX11_who 19 = .ok (.aload_n 0, 1) := by decide +kernel
theorem dX11_who_20 : decode cX11_who 20 = .ok (.getfield 19, 3) := by decide +kernel
theorem dX11_who_23 : decode cX11_who 23 = .ok (.bipush 15, 2) := by decide +kernel
theorem dX11_who_25 : decode cX11_who 25 = .ok (.iconst 3, 1) := by decide +kernel
theorem dX11_who_26 : decode cX11_who 26 = .ok (.iload_n 1, 1) := by decide +kernel
theorem dX11_who_27 : decode cX11_who 27 = .ok (.imul, 1) := by decide +kernel
theorem dX11_who_28 : decode cX11_who 28 = .ok (.iadd, 1) := by decide +kernel
theorem dX11_who_29 : decode cX11_who 29 = .ok (.iaload, 1) := by decide +kernel
theorem dX11_who_30 : decode cX11_who 30 = .ok (.goto 4, 3) := by decide +kernel
theorem dX11_who_33 : decode cX11_who 33 = .ok (.iload_n 2, 1) := by decide +kernel
theorem dX11_who_34 : decode cX11_who 34 = .ok (.ireturn, 1) := by decide +kernel
set_option maxRecDepth 20000 in
theorem ggX11_own_X11_who : GoodIn wsX11_own wsX11_who := goodIn_r _ [6, 7, 8, 9, 10, 11, 12, 13, 14, 15, 16, 17, 18, 19, 20, 21, 22, 23, 24, 25, 26, 27, 28, 29, 30, 31, 32, 33, 34] (by decide +kernel) (by decide +kernel)
set_option maxRecDepth 20000 in
theorem gX11_own_X11_who : GoodIn wsX11_own (wsV RX11 126 RX11 yX11_who wsX11_who) := goodIn_app (goodIn_of _ (by decide +kernel)) ggX11_own_X11_who
theorem dX11_own_0 : decode cX11_own 0 = .ok (.iconst 0, 1) := by decide +kernel
theorem dX11_own_1 : decode cX11_own 1 = .ok (.istore_n 2, 1) := by decide +kernel
theorem dX11_own_2 : decode cX11_own 2 = .ok (.iconst 0, 1) := by decide +kernel
theorem dX11_own_3 : decode cX11_own 3 = .ok (.istore_n 3, 1) := by decide +kernel
theorem dX11_own_4 : decode cX11_own 4 = .ok (.iload_n 3, 1) := by decide +kernel
theorem dX11_own_5 : decode cX11_own 5 = .ok (.aload_n 0, 1) := by decide +kernel
theorem dX11_own_6 : decode cX11_own 6 = .ok (.getfield 13, 3) := by decide +kernel
theorem dX11_own_9 : decode cX11_own 9 = .ok (.iconst 1, 1) := by decide +kernel
theorem dX11_own_10 : decode cX11_own 10 = .ok (.iaload, 1) := by decide +kernel
theorem dX11_own_11 : decode cX11_own 11 = .ok (.if_icmp .ge 28, 3) := by decide +kernel
theorem dX11_own_14 : decode cX11_own 14 = .ok (.iload_n 2, 1) := by decide +kernel
theorem dX11_own_15 : decode cX11_own 15 = .ok (.aload_n 0, 1) := by decide +kernel
theorem dX11_own_16 : decode cX11_own 16 = .ok (.iload_n 3, 1) := by decide +kernel
theorem dX11_own_17 : decode cX11_own 17 = .ok (.invokevirtual 126, 3) := by decide +kernel
theorem dX11_own_20 : decode cX11_own 20 = .ok (.iload_n 1, 1) := by decide +kernel
theorem dX11_own_21 : decode cX11_own 21 = .ok (.if_icmp .ne 9, 3) := by decide +kernel
theorem dX11_own_24 : decode cX11_own 24 = .ok (.iconst 1, 1) := by decide +kernel
theorem dX11_own_25 : decode cX11_own 25 = .ok (.iload_n 3, 1) := by decide +kernel
theorem dX11_own_26 : decode cX11_own 26 = .ok (.ishl, 1) := by decide +kernel
theorem dX11_own_27 : decode cX11_own 27 = .ok (.goto 4, 3) := by decide +kernel
theorem dX11_own_30 : decode cX11_own 30 = .ok (.iconst 0, 1) := by decide +kernel
theorem dX11_own_31 : decode cX11_own 31 = .ok (.ior, 1) := by decide +kernel
theorem dX11_own_32 : decode cX11_own 32 = .ok (.istore_n 2, 1) := by decide +kernel
theorem dX11_own_33 : decode cX11_own 33 = .ok (.iinc 3 1, 3) := by decide +kernel
theorem dX11_own_36 : decode cX11_own 36 = .ok (.goto (-32), 3) := by decide +kernel
theorem dX11_own_39 : decode cX11_own 39 = .ok (.iload_n 2, 1) := by decide +kernel
theorem dX11_own_40 : decode cX11_own 40 = .ok (.ireturn, 1) := by decide +kernel
theorem dX11_held_0 : decode cX11_held 0 = .ok (.iconst 0, 1) := by decide +kernel
theorem dX11_held_1 : decode cX11_held 1 = .ok (.istore_n 2, 1) := by decide +kernel
theorem dX11_held_2 : decode cX11_held 2 = .ok (.iconst 0, 1) := by decide +kernel
theorem dX11_held_3 : decode cX11_held 3 = .ok (.istore_n 3, 1) := by decide +kernel
theorem dX11_held_4 : decode cX11_held 4 = .ok (.iload_n 3, 1) := by decide +kernel
theorem dX11_held_5 : decode cX11_held 5 = .ok (.aload_n 0, 1) := by decide +kernel
theorem dX11_held_6 : decode cX11_held 6 = .ok (.getfield 13, 3) := by decide +kernel
theorem dX11_held_9 : decode cX11_held 9 = .ok (.iconst 1, 1) := by decide +kernel
theorem dX11_held_10 : decode cX11_held 10 = .ok (.iaload, 1) := by decide +kernel
theorem dX11_held_11 : decode cX11_held 11 = .ok (.if_icmp .ge 34, 3) := by decide +kernel
theorem dX11_held_14 : decode cX11_held 14 = .ok (.iload_n 2, 1) := by decide +kernel
theorem dX11_held_15 : decode cX11_held 15 = .ok (.aload_n 0, 1) := by decide +kernel
theorem dX11_held_16 : decode cX11_held 16 = .ok (.getfield 19, 3) := by decide +kernel
theorem dX11_held_19 : decode cX11_held 19 = .ok (.bipush 15, 2) := by decide +kernel
theorem dX11_held_21 : decode cX11_held 21 = .ok (.iconst 3, 1) := by decide +kernel
theorem dX11_held_22 : decode cX11_held 22 = .ok (.iload_n 3, 1) := by decide +kernel
theorem dX11_held_23 : decode cX11_held 23 = .ok (.imul, 1) := by decide +kernel
theorem dX11_held_24 : decode cX11_held 24 = .ok (.iadd, 1) := by decide +kernel
theorem dX11_held_25 : decode cX11_held 25 = .ok (.iaload, 1) := by decide +kernel
theorem dX11_held_26 : decode cX11_held 26 = .ok (.iload_n 1, 1) := by decide +kernel
theorem dX11_held_27 : decode cX11_held 27 = .ok (.if_icmp .ne 9, 3) := by decide +kernel
theorem dX11_held_30 : decode cX11_held 30 = .ok (.iconst 1, 1) := by decide +kernel
theorem dX11_held_31 : decode cX11_held 31 = .ok (.iload_n 3, 1) := by decide +kernel
theorem dX11_held_32 : decode cX11_held 32 = .ok (.ishl, 1) := by decide +kernel
theorem dX11_held_33 : decode cX11_held 33 = .ok (.goto 4, 3) := by decide +kernel
theorem dX11_held_36 : decode cX11_held 36 = .ok (.iconst 0, 1) := by decide +kernel
theorem dX11_held_37 : decode cX11_held 37 = .ok (.ior, 1) := by decide +kernel
theorem dX11_held_38 : decode cX11_held 38 = .ok (.istore_n 2, 1) := by decide +kernel
theorem dX11_held_39 : decode cX11_held 39 = .ok (.iinc 3 1, 3) := by decide +kernel
theorem dX11_held_42 : decode cX11_held 42 = .ok (.goto (-38), 3) := by decide +kernel
theorem dX11_held_45 : decode cX11_held 45 = .ok (.iload_n 2, 1) := by decide +kernel
theorem dX11_held_46 : decode cX11_held 46 = .ok (.ireturn, 1) := by decide +kernel
theorem dX11_spread_0 : decode cX11_spread 0 = .ok (.sipush 9999, 3) := by decide +kernel
theorem dX11_spread_3 : decode cX11_spread 3 = .ok (.istore_n 1, 1) := by decide +kernel
theorem dX11_spread_4 : decode cX11_spread 4 = .ok (.iconst 0, 1) := by decide +kernel
theorem dX11_spread_5 : decode cX11_spread 5 = .ok (.istore_n 2, 1) := by decide +kernel
theorem dX11_spread_6 : decode cX11_spread 6 = .ok (.iconst 0, 1) := by decide +kernel
theorem dX11_spread_7 : decode cX11_spread 7 = .ok (.istore_n 3, 1) := by decide +kernel
theorem dX11_spread_8 : decode cX11_spread 8 = .ok (.iload_n 3, 1) := by decide +kernel
theorem dX11_spread_9 : decode cX11_spread 9 = .ok (.aload_n 0, 1) := by decide +kernel
theorem dX11_spread_10 : decode cX11_spread 10 = .ok (.getfield 13, 3) := by decide +kernel
theorem dX11_spread_13 : decode cX11_spread 13 = .ok (.iconst 0, 1) := by decide +kernel
theorem dX11_spread_14 : decode cX11_spread 14 = .ok (.iaload, 1) := by decide +kernel
theorem dX11_spread_15 : decode cX11_spread 15 = .ok (.if_icmp .ge 47, 3) := by decide +kernel
theorem dX11_spread_18 : decode cX11_spread 18 = .ok (.aload_n 0, 1) := by decide +kernel
theorem dX11_spread_19 : decode cX11_spread 19 = .ok (.getfield 19, 3) := by decide +kernel
theorem dX11_spread_22 : decode cX11_spread 22 = .ok (.iconst 3, 1) := by decide +kernel
theorem dX11_spread_23 : decode cX11_spread 23 = .ok (.iconst 2, 1) := by decide +kernel
theorem dX11_spread_24 : decode cX11_spread 24 = .ok (.iload_n 3, 1) := by decide +kernel
theorem dX11_spread_25 : decode cX11_spread 25 = .ok (.imul, 1) := by decide +kernel
theorem dX11_spread_26 : decode cX11_spread 26 = .ok (.iadd, 1) := by decide +kernel
theorem dX11_spread_27 : decode cX11_spread 27 = .ok (.iaload, 1) := by decide +kernel
theorem dX11_spread_28 : decode cX11_spread 28 = .ok (.istore 4, 2) := by decide +kernel
theorem dX11_spread_30 : decode cX11_spread 30 = .ok (.iload 4, 2) := by decide +kernel
theorem dX11_spread_32 : decode cX11_spread 32 = .ok (.iload_n 1, 1) := by decide +kernel
theorem dX11_spread_33 : decode cX11_spread 33 = .ok (.if_icmp .ge 8, 3) := by decide +kernel
theorem dX11_spread_36 : decode cX11_spread 36 = .ok (.iload 4, 2) := by decide +kernel
theorem dX11_spread_38 : decode cX11_spread 38 = .ok (.goto 4, 3) := by decide +kernel
theorem dX11_spread_41 : decode cX11_spread 41 = .ok (.iload_n 1, 1) := by decide +kernel
theorem dX11_spread_42 : decode cX11_spread 42 = .ok (.istore_n 1, 1) := by decide +kernel
theorem dX11_spread_43 : decode cX11_spread 43 = .ok (.iload 4, 2) := by decide +kernel
theorem dX11_spread_45 : decode cX11_spread 45 = .ok (.iload_n 2, 1) := by decide +kernel
theorem dX11_spread_46 : decode cX11_spread 46 = .ok (.if_icmp .le 8, 3) := by decide +kernel
theorem dX11_spread_49 : decode cX11_spread 49 = .ok (.iload 4, 2) := by decide +kernel
theorem dX11_spread_51 : decode cX11_spread 51 = .ok (.goto 4, 3) := by decide +kernel
theorem dX11_spread_54 : decode cX11_spread 54 = .ok (.iload_n 2, 1) := by decide +kernel
theorem dX11_spread_55 : decode cX11_spread 55 = .ok (.istore_n 2, 1) := by decide +kernel
theorem dX11_spread_56 : decode cX11_spread 56 = .ok (.iinc 3 1, 3) := by decide +kernel
theorem dX11_spread_59 : decode cX11_spread 59 = .ok (.goto (-51), 3) := by decide +kernel
theorem dX11_spread_62 : decode cX11_spread 62 = .ok (.aload_n 0, 1) := by decide +kernel
theorem dX11_spread_63 : decode cX11_spread 63 = .ok (.getfield 13, 3) := by decide +kernel
theorem dX11_spread_66 : decode cX11_spread 66 = .ok (.iconst 0, 1) := by decide +kernel
theorem dX11_spread_67 : decode cX11_spread 67 = .ok (.iaload, 1) := by decide +kernel
theorem dX11_spread_68 : decode cX11_spread 68 = .ok (.ifCond .ne 7, 3) := by decide +kernel
theorem dX11_spread_71 : decode cX11_spread 71 = .ok (.iconst 0, 1) := by decide +kernel
theorem dX11_spread_72 : decode cX11_spread 72 = .ok (.goto 6, 3) := by decide +kernel
theorem dX11_spread_75 : decode cX11_spread 75 = .ok (.iload_n 2, 1) := by decide +kernel
theorem dX11_spread_76 : decode cX11_spread 76 = .ok (.iload_n 1, 1) := by decide +kernel
theorem dX11_spread_77 : decode cX11_spread 77 = .ok (.isub, 1) := by decide +kernel
theorem dX11_spread_78 : decode cX11_spread 78 = .ok (.ireturn, 1) := by decide +kernel
set_option maxRecDepth 20000 in
theorem ggX11_told_X11_weightOf : GoodIn wsX11_told wsX11_weightOf := goodIn_r _ [13, 1, 14, 15, 16, 12, 17, 22, 23, 24, 25, 26, 27, 28, 29, 30, 31, 32, 33, 34, 35, 36, 37, 38, 39, 40, 41, 42, 43, 44, 45, 46, 47, 48] (by decide +kernel) (by decide +kernel)
set_option maxRecDepth 20000 in
theorem gX11_told_X11_weightOf : GoodIn wsX11_told (wsV RX11 129 RX11 yX11_weightOf wsX11_weightOf) := goodIn_app (goodIn_of _ (by decide +kernel)) ggX11_told_X11_weightOf
set_option maxRecDepth 20000 in
theorem ggX11_told_X11_spread : GoodIn wsX11_told wsX11_spread := goodIn_r _ [21, 1, 3, 22, 23, 24, 25, 26, 27, 28, 29, 30, 31, 32, 33, 34, 35, 36, 37, 38, 39, 40, 41, 42, 43, 44, 45, 46, 47, 48] (by decide +kernel) (by decide +kernel)
set_option maxRecDepth 20000 in
theorem gX11_told_X11_spread : GoodIn wsX11_told (wsV RX11 132 RX11 yX11_spread wsX11_spread) := goodIn_app (goodIn_of _ (by decide +kernel)) ggX11_told_X11_spread
theorem dX11_told_0 : decode cX11_told 0 = .ok (.iload_n 1, 1) := by decide +kernel
theorem dX11_told_1 : decode cX11_told 1 = .ok (.tableswitch 144 0 13 #[71, 71, 78, 83, 83, 92, 92, 101, 108, 119, 124, 129, 134, 139], 71) := by decide +kernel
theorem dX11_told_72 : decode cX11_told 72 = .ok (.aload_n 0, 1) := by decide +kernel
theorem dX11_told_73 : decode cX11_told 73 = .ok (.getfield 13, 3) := by decide +kernel
theorem dX11_told_76 : decode cX11_told 76 = .ok (.iload_n 1, 1) := by decide +kernel
theorem dX11_told_77 : decode cX11_told 77 = .ok (.iaload, 1) := by decide +kernel
theorem dX11_told_78 : decode cX11_told 78 = .ok (.ireturn, 1) := by decide +kernel
theorem dX11_told_79 : decode cX11_told 79 = .ok (.aload_n 0, 1) := by decide +kernel
theorem dX11_told_80 : decode cX11_told 80 = .ok (.getfield 72, 3) := by decide +kernel
theorem dX11_told_83 : decode cX11_told 83 = .ok (.ireturn, 1) := by decide +kernel
theorem dX11_told_84 : decode cX11_told 84 = .ok (.aload_n 0, 1) := by decide +kernel
theorem dX11_told_85 : decode cX11_told 85 = .ok (.getfield 19, 3) := by decide +kernel
theorem dX11_told_88 : decode cX11_told 88 = .ok (.iload_n 1, 1) := by decide +kernel
theorem dX11_told_89 : decode cX11_told 89 = .ok (.iconst 3, 1) := by decide +kernel
theorem dX11_told_90 : decode cX11_told 90 = .ok (.isub, 1) := by decide +kernel
theorem dX11_told_91 : decode cX11_told 91 = .ok (.iaload, 1) := by decide +kernel
theorem dX11_told_92 : decode cX11_told 92 = .ok (.ireturn, 1) := by decide +kernel
theorem dX11_told_93 : decode cX11_told 93 = .ok (.aload_n 0, 1) := by decide +kernel
theorem dX11_told_94 : decode cX11_told 94 = .ok (.getfield 13, 3) := by decide +kernel
theorem dX11_told_97 : decode cX11_told 97 = .ok (.iload_n 1, 1) := by decide +kernel
theorem dX11_told_98 : decode cX11_told 98 = .ok (.iconst 3, 1) := by decide +kernel
theorem dX11_told_99 : decode cX11_told 99 = .ok (.isub, 1) := by decide +kernel
theorem dX11_told_100 : decode cX11_told 100 = .ok (.iaload, 1) := by decide +kernel
theorem dX11_told_101 : decode cX11_told 101 = .ok (.ireturn, 1) := by decide +kernel
theorem dX11_told_102 : decode cX11_told 102 = .ok (.aload_n 0, 1) := by decide +kernel
theorem dX11_told_103 : decode cX11_told 103 = .ok (.getfield 19, 3) := by decide +kernel
theorem dX11_told_106 : decode cX11_told 106 = .ok (.iconst 2, 1) := by decide +kernel
theorem dX11_told_107 : decode cX11_told 107 = .ok (.iaload, 1) := by decide +kernel
theorem dX11_told_108 : decode cX11_told 108 = .ok (.ireturn, 1) := by decide +kernel
theorem dX11_told_109 : decode cX11_told 109 = .ok (.aload_n 0, 1) := by decide +kernel
theorem dX11_told_110 : decode cX11_told 110 = .ok (.aload_n 0, 1) := by decide +kernel
theorem dX11_told_111 : decode cX11_told 111 = .ok (.getfield 19, 3) := by decide +kernel
theorem dX11_told_114 : decode cX11_told 114 = .ok (.iconst 2, 1) := by decide +kernel
theorem dX11_told_115 : decode cX11_told 115 = .ok (.iaload, 1) := by decide +kernel
theorem dX11_told_116 : decode cX11_told 116 = .ok (.invokevirtual 129, 3) := by decide +kernel
theorem dX11_told_119 : decode cX11_told 119 = .ok (.ireturn, 1) := by decide +kernel
theorem dX11_told_120 : decode cX11_told 120 = .ok (.aload_n 0, 1) := by decide +kernel
theorem dX11_told_121 : decode cX11_told 121 = .ok (.invokevirtual 132, 3) := by decide +kernel
theorem dX11_told_124 : decode cX11_told 124 = .ok (.ireturn, 1) := by decide +kernel
theorem dX11_told_125 : decode cX11_told 125 = .ok (.aload_n 0, 1) := by decide +kernel
theorem dX11_told_126 : decode cX11_told 126 = .ok (.getfield 110, 3) := by decide +kernel
theorem dX11_told_129 : decode cX11_told 129 = .ok (.ireturn, 1) := by decide +kernel
theorem dX11_told_130 : decode cX11_told 130 = .ok (.aload_n 0, 1) := by decide +kernel
theorem dX11_told_131 : decode cX11_told 131 = .ok (.getfield 116, 3) := by decide +kernel
theorem dX11_told_134 : decode cX11_told 134 = .ok (.ireturn, 1) := by decide +kernel
theorem dX11_told_135 : decode cX11_told 135 = .ok (.aload_n 0, 1) := by decide +kernel
theorem dX11_told_136 : decode cX11_told 136 = .ok (.getfield 113, 3) := by decide +kernel
theorem dX11_told_139 : decode cX11_told 139 = .ok (.ireturn, 1) := by decide +kernel
theorem dX11_told_140 : decode cX11_told 140 = .ok (.aload_n 0, 1) := by decide +kernel
theorem dX11_told_141 : decode cX11_told 141 = .ok (.getfield 119, 3) := by decide +kernel
theorem dX11_told_144 : decode cX11_told 144 = .ok (.ireturn, 1) := by decide +kernel
theorem dX11_told_145 : decode cX11_told 145 = .ok (.ldc 71, 2) := by decide +kernel
theorem dX11_told_147 : decode cX11_told 147 = .ok (.ireturn, 1) := by decide +kernel
set_option maxRecDepth 20000 in
theorem ggX11_person_X11_isPerson : GoodIn wsX11_person wsX11_isPerson := goodIn_r _ [9, 3, 10, 11, 8, 12, 25, 26, 27, 28, 29, 30, 31, 32, 33, 34, 35, 36, 37, 38, 39, 40, 41, 42, 43, 44, 45, 46, 47, 48, 49, 50, 51] (by decide +kernel) (by decide +kernel)
set_option maxRecDepth 20000 in
theorem gX11_person_X11_isPerson : GoodIn wsX11_person (wsV RX11 135 RX11 yX11_isPerson wsX11_isPerson) := goodIn_app (goodIn_of _ (by decide +kernel)) ggX11_person_X11_isPerson
set_option maxRecDepth 20000 in
theorem ggX11_person_X11_held : GoodIn wsX11_person wsX11_held := goodIn_r _ [16, 3, 2, 25, 26, 27, 28, 29, 30, 31, 32, 33, 34, 35, 36, 37, 38, 39, 40, 41, 42, 43, 44, 45, 46, 47, 48, 49, 50, 51] (by decide +kernel) (by decide +kernel)
set_option maxRecDepth 20000 in
theorem gX11_person_X11_held : GoodIn wsX11_person (wsV RX11 140 RX11 yX11_held wsX11_held) := goodIn_app (goodIn_of _ (by decide +kernel)) ggX11_person_X11_held
set_option maxRecDepth 20000 in
theorem ggX11_person_X11_own : GoodIn wsX11_person wsX11_own := goodIn_r _ [20, 3, 21, 22, 23, 8, 24, 2, 25, 26, 27, 28, 29, 30, 31, 32, 33, 34, 35, 36, 37, 38, 39, 40, 41, 42, 43, 44, 45, 46, 47, 48, 49, 50, 51] (by decide +kernel) (by decide +kernel)
set_option maxRecDepth 20000 in
theorem gX11_person_X11_own : GoodIn wsX11_person (wsV RX11 143 RX11 yX11_own wsX11_own) := goodIn_app (goodIn_of _ (by decide +kernel)) ggX11_person_X11_own
theorem dX11_person_0 : decode cX11_person 0 = .ok (.aload_n 0, 1) := by decide +kernel
theorem dX11_person_1 : decode cX11_person 1 = .ok (.iload_n 1, 1) := by decide +kernel
theorem dX11_person_2 : decode cX11_person 2 = .ok (.invokevirtual 135, 3) := by decide +kernel
theorem dX11_person_5 : decode cX11_person 5 = .ok (.ifCond .ne 6, 3) := by decide +kernel
theorem dX11_person_8 : decode cX11_person 8 = .ok (.ldc 139, 2) := by decide +kernel
theorem dX11_person_10 : decode cX11_person 10 = .ok (.ireturn, 1) := by decide +kernel
theorem dX11_person_11 : decode cX11_person 11 = .ok (.iconst 0, 1) := by decide +kernel
theorem dX11_person_12 : decode cX11_person 12 = .ok (.istore_n 3, 1) := by decide +kernel
theorem dX11_person_13 : decode cX11_person 13 = .ok (.iconst 0, 1) := by decide +kernel
theorem dX11_person_14 : decode cX11_person 14 = .ok (.istore 4, 2) := by decide +kernel
theorem dX11_person_16 : decode cX11_person 16 = .ok (.iload 4, 2) := by decide +kernel
theorem dX11_person_18 : decode cX11_person 18 = .ok (.iconst 4, 1) := by decide +kernel
theorem dX11_person_19 : decode cX11_person 19 = .ok (.if_icmp .ge 42, 3) := by decide +kernel
theorem dX11_person_22 : decode cX11_person 22 = .ok (.iload_n 3, 1) := by decide +kernel
theorem dX11_person_23 : decode cX11_person 23 = .ok (.aload_n 0, 1) := by decide +kernel
theorem dX11_person_24 : decode cX11_person 24 = .ok (.getfield 19, 3) := by decide +kernel
theorem dX11_person_27 : decode cX11_person 27 = .ok (.iconst 3, 1) := by decide +kernel
theorem dX11_person_28 : decode cX11_person 28 = .ok (.iconst 2, 1) := by decide +kernel
theorem dX11_person_29 : decode cX11_person 29 = .ok (.iload_n 1, 1) := by decide +kernel
theorem dX11_person_30 : decode cX11_person 30 = .ok (.imul, 1) := by decide +kernel
theorem dX11_person_31 : decode cX11_person 31 = .ok (.iadd, 1) := by decide +kernel
theorem dX11_person_32 : decode cX11_person 32 = .ok (.iaload, 1) := by decide +kernel
theorem dX11_person_33 : decode cX11_person 33 = .ok (.aload_n 0, 1) := by decide +kernel
theorem dX11_person_34 : decode cX11_person 34 = .ok (.getfield 13, 3) := by decide +kernel
theorem dX11_person_37 : decode cX11_person 37 = .ok (.iconst 5, 1) := by decide +kernel
theorem dX11_person_38 : decode cX11_person 38 = .ok (.iload 4, 2) := by decide +kernel
theorem dX11_person_40 : decode cX11_person 40 = .ok (.iadd, 1) := by decide +kernel
theorem dX11_person_41 : decode cX11_person 41 = .ok (.iaload, 1) := by decide +kernel
theorem dX11_person_42 : decode cX11_person 42 = .ok (.if_icmp .lt 10, 3) := by decide +kernel
theorem dX11_person_45 : decode cX11_person 45 = .ok (.iconst 1, 1) := by decide +kernel
theorem dX11_person_46 : decode cX11_person 46 = .ok (.iload 4, 2) := by decide +kernel
theorem dX11_person_48 : decode cX11_person 48 = .ok (.ishl, 1) := by decide +kernel
theorem dX11_person_49 : decode cX11_person 49 = .ok (.goto 4, 3) := by decide +kernel
theorem dX11_person_52 : decode cX11_person 52 = .ok (.iconst 0, 1) := by decide +kernel
theorem dX11_person_53 : decode cX11_person 53 = .ok (.ior, 1) := by decide +kernel
theorem dX11_person_54 : decode cX11_person 54 = .ok (.istore_n 3, 1) := by decide +kernel
theorem dX11_person_55 : decode cX11_person 55 = .ok (.iinc 4 1, 3) := by decide +kernel
theorem dX11_person_58 : decode cX11_person 58 = .ok (.goto (-42), 3) := by decide +kernel
theorem dX11_person_61 : decode cX11_person 61 = .ok (.iload_n 2, 1) := by decide +kernel
theorem dX11_person_62 : decode cX11_person 62 = .ok (.tableswitch 61 0 4 #[34, 34, 47, 49, 55], 34) := by decide +kernel
theorem dX11_person_96 : decode cX11_person 96 = .ok (.aload_n 0, 1) := by decide +kernel
theorem dX11_person_97 : decode cX11_person 97 = .ok (.getfield 19, 3) := by decide +kernel
theorem dX11_person_100 : decode cX11_person 100 = .ok (.iconst 3, 1) := by decide +kernel
theorem dX11_person_101 : decode cX11_person 101 = .ok (.iconst 2, 1) := by decide +kernel
theorem dX11_person_102 : decode cX11_person 102 = .ok (.iload_n 1, 1) := by decide +kernel
theorem dX11_person_103 : decode cX11_person 103 = .ok (.imul, 1) := by decide +kernel
theorem dX11_person_104 : decode cX11_person 104 = .ok (.iadd, 1) := by decide +kernel
theorem dX11_person_105 : decode cX11_person 105 = .ok (.iload_n 2, 1) := by decide +kernel
theorem dX11_person_106 : decode cX11_person 106 = .ok (.iadd, 1) := by decide +kernel
theorem dX11_person_107 : decode cX11_person 107 = .ok (.iaload, 1) := by decide +kernel
theorem dX11_person_108 : decode cX11_person 108 = .ok (.ireturn, 1) := by decide +kernel
theorem dX11_person_109 : decode cX11_person 109 = .ok (.iload_n 3, 1) := by decide +kernel
theorem dX11_person_110 : decode cX11_person 110 = .ok (.ireturn, 1) := by decide +kernel
theorem dX11_person_111 : decode cX11_person 111 = .ok (.aload_n 0, 1) := by decide +kernel
theorem dX11_person_112 : decode cX11_person 112 = .ok (.iload_n 1, 1) := by decide +kernel
theorem dX11_person_113 : decode cX11_person 113 = .ok (.invokevirtual 140, 3) := by decide +kernel
theorem dX11_person_116 : decode cX11_person 116 = .ok (.ireturn, 1) := by decide +kernel
theorem dX11_person_117 : decode cX11_person 117 = .ok (.aload_n 0, 1) := by decide +kernel
theorem dX11_person_118 : decode cX11_person 118 = .ok (.iload_n 1, 1) := by decide +kernel
theorem dX11_person_119 : decode cX11_person 119 = .ok (.invokevirtual 143, 3) := by decide +kernel
theorem dX11_person_122 : decode cX11_person 122 = .ok (.ireturn, 1) := by decide +kernel
theorem dX11_person_123 : decode cX11_person 123 = .ok (.ldc 71, 2) := by decide +kernel
theorem dX11_person_125 : decode cX11_person 125 = .ok (.ireturn, 1) := by decide +kernel
set_option maxRecDepth 20000 in
theorem ggX11_ticket_X11_isTicket : GoodIn wsX11_ticket wsX11_isTicket := goodIn_r _ [8, 9, 10, 11, 7, 12, 17, 18, 19, 20, 21, 22, 23, 24, 25, 26, 27, 28, 29, 30, 31, 32, 33, 34, 35, 36, 37, 38, 39, 40, 41, 42, 43] (by decide +kernel) (by decide +kernel)
set_option maxRecDepth 20000 in
theorem gX11_ticket_X11_isTicket : GoodIn wsX11_ticket (wsV RX11 146 RX11 yX11_isTicket wsX11_isTicket) := goodIn_app (goodIn_of _ (by decide +kernel)) ggX11_ticket_X11_isTicket
set_option maxRecDepth 20000 in
theorem ggX11_ticket_X11_weight : GoodIn wsX11_ticket wsX11_weight := goodIn_r _ [16, 9, 17, 18, 19, 20, 21, 22, 23, 24, 25, 26, 27, 28, 29, 30, 31, 32, 33, 34, 35, 36, 37, 38, 39, 40, 41, 42, 43] (by decide +kernel) (by decide +kernel)
set_option maxRecDepth 20000 in
theorem gX11_ticket_X11_weight : GoodIn wsX11_ticket (wsV RX11 122 RX11 yX11_weight wsX11_weight) := goodIn_app (goodIn_of _ (by decide +kernel)) ggX11_ticket_X11_weight
theorem dX11_ticket_0 : decode cX11_ticket 0 = .ok (.aload_n 0, 1) := by decide +kernel
theorem dX11_ticket_1 : decode cX11_ticket 1 = .ok (.iload_n 1, 1) := by decide +kernel
theorem dX11_ticket_2 : decode cX11_ticket 2 = .ok (.invokevirtual 146, 3) := by decide +kernel
theorem dX11_ticket_5 : decode cX11_ticket 5 = .ok (.ifCond .ne 6, 3) := by decide +kernel
theorem dX11_ticket_8 : decode cX11_ticket 8 = .ok (.ldc 139, 2) := by decide +kernel
theorem dX11_ticket_10 : decode cX11_ticket 10 = .ok (.ireturn, 1) := by decide +kernel
theorem dX11_ticket_11 : decode cX11_ticket 11 = .ok (.iload_n 2, 1) := by decide +kernel
theorem dX11_ticket_12 : decode cX11_ticket 12 = .ok (.tableswitch 78 0 3 #[32, 44, 50, 64], 32) := by decide +kernel
theorem dX11_ticket_44 : decode cX11_ticket 44 = .ok (.aload_n 0, 1) := by decide +kernel
theorem dX11_ticket_45 : decode cX11_ticket 45 = .ok (.getfield 19, 3) := by decide +kernel
theorem dX11_ticket_48 : decode cX11_ticket 48 = .ok (.bipush 15, 2) := by decide +kernel
theorem dX11_ticket_50 : decode cX11_ticket 50 = .ok (.iconst 3, 1) := by decide +kernel
theorem dX11_ticket_51 : decode cX11_ticket 51 = .ok (.iload_n 1, 1) := by decide +kernel
theorem dX11_ticket_52 : decode cX11_ticket 52 = .ok (.imul, 1) := by decide +kernel
theorem dX11_ticket_53 : decode cX11_ticket 53 = .ok (.iadd, 1) := by decide +kernel
theorem dX11_ticket_54 : decode cX11_ticket 54 = .ok (.iaload, 1) := by decide +kernel
theorem dX11_ticket_55 : decode cX11_ticket 55 = .ok (.ireturn, 1) := by decide +kernel
theorem dX11_ticket_56 : decode cX11_ticket 56 = .ok (.aload_n 0, 1) := by decide +kernel
theorem dX11_ticket_57 : decode cX11_ticket 57 = .ok (.iload_n 1, 1) := by decide +kernel
theorem dX11_ticket_58 : decode cX11_ticket 58 = .ok (.invokevirtual 122, 3) := by decide +kernel
theorem dX11_ticket_61 : decode cX11_ticket 61 = .ok (.ireturn, 1) := by decide +kernel
theorem dX11_ticket_62 : decode cX11_ticket 62 = .ok (.aload_n 0, 1) := by decide +kernel
theorem dX11_ticket_63 : decode cX11_ticket 63 = .ok (.getfield 19, 3) := by decide +kernel
theorem dX11_ticket_66 : decode cX11_ticket 66 = .ok (.bipush 15, 2) := by decide +kernel
theorem dX11_ticket_68 : decode cX11_ticket 68 = .ok (.iconst 3, 1) := by decide +kernel
theorem dX11_ticket_69 : decode cX11_ticket 69 = .ok (.iload_n 1, 1) := by decide +kernel
theorem dX11_ticket_70 : decode cX11_ticket 70 = .ok (.imul, 1) := by decide +kernel
theorem dX11_ticket_71 : decode cX11_ticket 71 = .ok (.iadd, 1) := by decide +kernel
theorem dX11_ticket_72 : decode cX11_ticket 72 = .ok (.iconst 2, 1) := by decide +kernel
theorem dX11_ticket_73 : decode cX11_ticket 73 = .ok (.iadd, 1) := by decide +kernel
theorem dX11_ticket_74 : decode cX11_ticket 74 = .ok (.iaload, 1) := by decide +kernel
theorem dX11_ticket_75 : decode cX11_ticket 75 = .ok (.ireturn, 1) := by decide +kernel
theorem dX11_ticket_76 : decode cX11_ticket 76 = .ok (.aload_n 0, 1) := by decide +kernel
theorem dX11_ticket_77 : decode cX11_ticket 77 = .ok (.getfield 19, 3) := by decide +kernel
theorem dX11_ticket_80 : decode cX11_ticket 80 = .ok (.bipush 15, 2) := by decide +kernel
theorem dX11_ticket_82 : decode cX11_ticket 82 = .ok (.iconst 3, 1) := by decide +kernel
theorem dX11_ticket_83 : decode cX11_ticket 83 = .ok (.iload_n 1, 1) := by decide +kernel
theorem dX11_ticket_84 : decode cX11_ticket 84 = .ok (.imul, 1) := by decide +kernel
theorem dX11_ticket_85 : decode cX11_ticket 85 = .ok (.iadd, 1) := by decide +kernel
theorem dX11_ticket_86 : decode cX11_ticket 86 = .ok (.iconst 1, 1) := by decide +kernel
theorem dX11_ticket_87 : decode cX11_ticket 87 = .ok (.iadd, 1) := by decide +kernel
theorem dX11_ticket_88 : decode cX11_ticket 88 = .ok (.iaload, 1) := by decide +kernel
theorem dX11_ticket_89 : decode cX11_ticket 89 = .ok (.ireturn, 1) := by decide +kernel
theorem dX11_ticket_90 : decode cX11_ticket 90 = .ok (.ldc 71, 2) := by decide +kernel
theorem dX11_ticket_92 : decode cX11_ticket 92 = .ok (.ireturn, 1) := by decide +kernel
set_option maxRecDepth 20000 in
theorem ggX11_right_X11_in : GoodIn wsX11_right wsX11_in := goodIn_r _ [7] (by decide +kernel) (by decide +kernel)
set_option maxRecDepth 20000 in
theorem gX11_right_X11_in : GoodIn wsX11_right (va_wsS RX11 67 yX11_in wsX11_in) := goodIn_app (goodIn_of _ (by decide +kernel)) ggX11_right_X11_in
theorem dX11_right_0 : decode cX11_right 0 = .ok (.iload_n 1, 1) := by decide +kernel
theorem dX11_right_1 : decode cX11_right 1 = .ok (.i2l, 1) := by decide +kernel
theorem dX11_right_2 : decode cX11_right 2 = .ok (.lconst 0, 1) := by decide +kernel
theorem dX11_right_3 : decode cX11_right 3 = .ok (.ldc2_w 149, 3) := by decide +kernel
theorem dX11_right_6 : decode cX11_right 6 = .ok (.invokestatic 67, 3) := by decide +kernel
theorem dX11_right_9 : decode cX11_right 9 = .ok (.ifCond .eq 14, 3) := by decide +kernel
theorem dX11_right_12 : decode cX11_right 12 = .ok (.aload_n 0, 1) := by decide +kernel
theorem dX11_right_13 : decode cX11_right 13 = .ok (.getfield 13, 3) := by decide +kernel
theorem dX11_right_16 : decode cX11_right 16 = .ok (.iconst 5, 1) := by decide +kernel
theorem dX11_right_17 : decode cX11_right 17 = .ok (.iload_n 1, 1) := by decide +kernel
theorem dX11_right_18 : decode cX11_right 18 = .ok (.iadd, 1) := by decide +kernel
theorem dX11_right_19 : decode cX11_right 19 = .ok (.iaload, 1) := by decide +kernel
theorem dX11_right_20 : decode cX11_right 20 = .ok (.goto 5, 3) := by decide +kernel
theorem dX11_right_23 : decode cX11_right 23 = .ok (.ldc 71, 2) := by decide +kernel
theorem dX11_right_25 : decode cX11_right 25 = .ok (.ireturn, 1) := by decide +kernel
theorem dX11_notes_0 : decode cX11_notes 0 = .ok (.aload_n 0, 1) := by decide +kernel
theorem dX11_notes_1 : decode cX11_notes 1 = .ok (.getfield 119, 3) := by decide +kernel
theorem dX11_notes_4 : decode cX11_notes 4 = .ok (.bipush 30, 2) := by decide +kernel
theorem dX11_notes_6 : decode cX11_notes 6 = .ok (.if_icmp .ne 40, 3) := by decide +kernel
theorem dX11_notes_9 : decode cX11_notes 9 = .ok (.bipush 39, 2) := by decide +kernel
theorem dX11_notes_11 : decode cX11_notes 11 = .ok (.istore_n 1, 1) := by decide +kernel
theorem dX11_notes_12 : decode cX11_notes 12 = .ok (.iload_n 1, 1) := by decide +kernel
theorem dX11_notes_13 : decode cX11_notes 13 = .ok (.sipush 1170, 3) := by decide +kernel
theorem dX11_notes_16 : decode cX11_notes 16 = .ok (.if_icmp .ge 24, 3) := by decide +kernel
theorem dX11_notes_19 : decode cX11_notes 19 = .ok (.aload_n 0, 1) := by decide +kernel
theorem dX11_notes_20 : decode cX11_notes 20 = .ok (.getfield 22, 3) := by decide +kernel
theorem dX11_notes_23 : decode cX11_notes 23 = .ok (.iload_n 1, 1) := by decide +kernel
theorem dX11_notes_24 : decode cX11_notes 24 = .ok (.bipush 39, 2) := by decide +kernel
theorem dX11_notes_26 : decode cX11_notes 26 = .ok (.isub, 1) := by decide +kernel
theorem dX11_notes_27 : decode cX11_notes 27 = .ok (.aload_n 0, 1) := by decide +kernel
theorem dX11_notes_28 : decode cX11_notes 28 = .ok (.getfield 22, 3) := by decide +kernel
theorem dX11_notes_31 : decode cX11_notes 31 = .ok (.iload_n 1, 1) := by decide +kernel
theorem dX11_notes_32 : decode cX11_notes 32 = .ok (.iaload, 1) := by decide +kernel
theorem dX11_notes_33 : decode cX11_notes 33 = .ok (.iastore, 1) := by decide +kernel
theorem dX11_notes_34 : decode cX11_notes 34 = .ok (.iinc 1 1, 3) := by decide +kernel
theorem dX11_notes_37 : decode cX11_notes 37 = .ok (.goto (-25), 3) := by decide +kernel
theorem dX11_notes_40 : decode cX11_notes 40 = .ok (.aload_n 0, 1) := by decide +kernel
theorem dX11_notes_41 : decode cX11_notes 41 = .ok (.bipush 29, 2) := by decide +kernel
theorem dX11_notes_43 : decode cX11_notes 43 = .ok (.putfield 119, 3) := by decide +kernel
theorem dX11_notes_46 : decode cX11_notes 46 = .ok (.iconst 0, 1) := by decide +kernel
theorem dX11_notes_47 : decode cX11_notes 47 = .ok (.istore_n 1, 1) := by decide +kernel
theorem dX11_notes_48 : decode cX11_notes 48 = .ok (.iload_n 1, 1) := by decide +kernel
theorem dX11_notes_49 : decode cX11_notes 49 = .ok (.bipush 39, 2) := by decide +kernel
theorem dX11_notes_51 : decode cX11_notes 51 = .ok (.if_icmp .ge 29, 3) := by decide +kernel
theorem dX11_notes_54 : decode cX11_notes 54 = .ok (.aload_n 0, 1) := by decide +kernel
theorem dX11_notes_55 : decode cX11_notes 55 = .ok (.getfield 22, 3) := by decide +kernel
theorem dX11_notes_58 : decode cX11_notes 58 = .ok (.bipush 39, 2) := by decide +kernel
theorem dX11_notes_60 : decode cX11_notes 60 = .ok (.aload_n 0, 1) := by decide +kernel
theorem dX11_notes_61 : decode cX11_notes 61 = .ok (.getfield 119, 3) := by decide +kernel
theorem dX11_notes_64 : decode cX11_notes 64 = .ok (.imul, 1) := by decide +kernel
theorem dX11_notes_65 : decode cX11_notes 65 = .ok (.iload_n 1, 1) := by decide +kernel
theorem dX11_notes_66 : decode cX11_notes 66 = .ok (.iadd, 1) := by decide +kernel
theorem dX11_notes_67 : decode cX11_notes 67 = .ok (.aload_n 0, 1) := by decide +kernel
theorem dX11_notes_68 : decode cX11_notes 68 = .ok (.getfield 19, 3) := by decide +kernel
theorem dX11_notes_71 : decode cX11_notes 71 = .ok (.iload_n 1, 1) := by decide +kernel
theorem dX11_notes_72 : decode cX11_notes 72 = .ok (.iaload, 1) := by decide +kernel
theorem dX11_notes_73 : decode cX11_notes 73 = .ok (.iastore, 1) := by decide +kernel
theorem dX11_notes_74 : decode cX11_notes 74 = .ok (.iinc 1 1, 3) := by decide +kernel
theorem dX11_notes_77 : decode cX11_notes 77 = .ok (.goto (-29), 3) := by decide +kernel
theorem dX11_notes_80 : decode cX11_notes 80 = .ok (.aload_n 0, 1) := by decide +kernel
theorem dX11_notes_81 : decode cX11_notes 81 = .ok (.dup, 1) := by decide +kernel
theorem dX11_notes_82 : decode cX11_notes 82 = .ok (.getfield 119, 3) := by decide +kernel
theorem dX11_notes_85 : decode cX11_notes 85 = .ok (.iconst 1, 1) := by decide +kernel
theorem dX11_notes_86 : decode cX11_notes 86 = .ok (.iadd, 1) := by decide +kernel
theorem dX11_notes_87 : decode cX11_notes 87 = .ok (.putfield 119, 3) := by decide +kernel
theorem dX11_notes_90 : decode cX11_notes 90 = .ok (.return_, 1) := by decide +kernel
set_option maxRecDepth 20000 in
theorem ggX11_draws_X11_who : GoodIn wsX11_draws wsX11_who := goodIn_r _ [7, 1, 12, 13, 14, 15, 16, 17, 18, 19, 20, 21, 22, 23, 24, 25, 26, 27, 28, 29, 30, 31, 32, 33, 34, 35, 36, 37, 38] (by decide +kernel) (by decide +kernel)
set_option maxRecDepth 20000 in
theorem gX11_draws_X11_who : GoodIn wsX11_draws (wsV RX11 126 RX11 yX11_who wsX11_who) := goodIn_app (goodIn_of _ (by decide +kernel)) ggX11_draws_X11_who
set_option maxRecDepth 20000 in
theorem ggX11_draws_X11_all : GoodIn wsX11_draws wsX11_all := goodIn_r _ [11, 2, 12, 13, 14, 15, 16, 17, 18, 19, 20, 21, 22, 23, 24, 25, 26, 27, 28, 29, 30, 31, 32, 33, 34, 35, 36, 37, 38] (by decide +kernel) (by decide +kernel)
set_option maxRecDepth 20000 in
theorem gX11_draws_X11_all : GoodIn wsX11_draws (wsV RX11 107 RX11 yX11_all wsX11_all) := goodIn_app (goodIn_of _ (by decide +kernel)) ggX11_draws_X11_all
theorem dX11_draws_0 : decode cX11_draws 0 = .ok (.iconst 3, 1) := by decide +kernel
theorem dX11_draws_1 : decode cX11_draws 1 = .ok (.iconst 2, 1) := by decide +kernel
theorem dX11_draws_2 : decode cX11_draws 2 = .ok (.aload_n 0, 1) := by decide +kernel
theorem dX11_draws_3 : decode cX11_draws 3 = .ok (.iload_n 1, 1) := by decide +kernel
theorem dX11_draws_4 : decode cX11_draws 4 = .ok (.invokevirtual 126, 3) := by decide +kernel
theorem dX11_draws_7 : decode cX11_draws 7 = .ok (.imul, 1) := by decide +kernel
theorem dX11_draws_8 : decode cX11_draws 8 = .ok (.iadd, 1) := by decide +kernel
theorem dX11_draws_9 : decode cX11_draws 9 = .ok (.istore_n 3, 1) := by decide +kernel
theorem dX11_draws_10 : decode cX11_draws 10 = .ok (.aload_n 0, 1) := by decide +kernel
theorem dX11_draws_11 : decode cX11_draws 11 = .ok (.getfield 19, 3) := by decide +kernel
theorem dX11_draws_14 : decode cX11_draws 14 = .ok (.iload_n 3, 1) := by decide +kernel
theorem dX11_draws_15 : decode cX11_draws 15 = .ok (.dup2, 1) := by decide +kernel
theorem dX11_draws_16 : decode cX11_draws 16 = .ok (.iaload, 1) := by decide +kernel
theorem dX11_draws_17 : decode cX11_draws 17 = .ok (.aload_n 0, 1) := by decide +kernel
theorem dX11_draws_18 : decode cX11_draws 18 = .ok (.getfield 19, 3) := by decide +kernel
theorem dX11_draws_21 : decode cX11_draws 21 = .ok (.iload_n 3, 1) := by decide +kernel
theorem dX11_draws_22 : decode cX11_draws 22 = .ok (.iaload, 1) := by decide +kernel
theorem dX11_draws_23 : decode cX11_draws 23 = .ok (.sipush 999, 3) := by decide +kernel
theorem dX11_draws_26 : decode cX11_draws 26 = .ok (.if_icmp .ge 7, 3) := by decide +kernel
theorem dX11_draws_29 : decode cX11_draws 29 = .ok (.iconst 1, 1) := by decide +kernel
theorem dX11_draws_30 : decode cX11_draws 30 = .ok (.goto 4, 3) := by decide +kernel
theorem dX11_draws_33 : decode cX11_draws 33 = .ok (.iconst 0, 1) := by decide +kernel
theorem dX11_draws_34 : decode cX11_draws 34 = .ok (.iadd, 1) := by decide +kernel
theorem dX11_draws_35 : decode cX11_draws 35 = .ok (.iastore, 1) := by decide +kernel
theorem dX11_draws_36 : decode cX11_draws 36 = .ok (.aload_n 0, 1) := by decide +kernel
theorem dX11_draws_37 : decode cX11_draws 37 = .ok (.getfield 19, 3) := by decide +kernel
theorem dX11_draws_40 : decode cX11_draws 40 = .ok (.iload_n 3, 1) := by decide +kernel
theorem dX11_draws_41 : decode cX11_draws 41 = .ok (.iconst 1, 1) := by decide +kernel
theorem dX11_draws_42 : decode cX11_draws 42 = .ok (.iadd, 1) := by decide +kernel
theorem dX11_draws_43 : decode cX11_draws 43 = .ok (.dup2, 1) := by decide +kernel
theorem dX11_draws_44 : decode cX11_draws 44 = .ok (.iaload, 1) := by decide +kernel
theorem dX11_draws_45 : decode cX11_draws 45 = .ok (.aload_n 0, 1) := by decide +kernel
theorem dX11_draws_46 : decode cX11_draws 46 = .ok (.getfield 19, 3) := by decide +kernel
theorem dX11_draws_49 : decode cX11_draws 49 = .ok (.iload_n 3, 1) := by decide +kernel
theorem dX11_draws_50 : decode cX11_draws 50 = .ok (.iaload, 1) := by decide +kernel
theorem dX11_draws_51 : decode cX11_draws 51 = .ok (.bipush 10, 2) := by decide +kernel
theorem dX11_draws_53 : decode cX11_draws 53 = .ok (.idiv, 1) := by decide +kernel
theorem dX11_draws_54 : decode cX11_draws 54 = .ok (.iconst 1, 1) := by decide +kernel
theorem dX11_draws_55 : decode cX11_draws 55 = .ok (.iadd, 1) := by decide +kernel
theorem dX11_draws_56 : decode cX11_draws 56 = .ok (.iadd, 1) := by decide +kernel
theorem dX11_draws_57 : decode cX11_draws 57 = .ok (.iastore, 1) := by decide +kernel
theorem dX11_draws_58 : decode cX11_draws 58 = .ok (.aload_n 0, 1) := by decide +kernel
theorem dX11_draws_59 : decode cX11_draws 59 = .ok (.getfield 19, 3) := by decide +kernel
theorem dX11_draws_62 : decode cX11_draws 62 = .ok (.iload_n 3, 1) := by decide +kernel
theorem dX11_draws_63 : decode cX11_draws 63 = .ok (.iconst 1, 1) := by decide +kernel
theorem dX11_draws_64 : decode cX11_draws 64 = .ok (.iadd, 1) := by decide +kernel
theorem dX11_draws_65 : decode cX11_draws 65 = .ok (.aload_n 0, 1) := by decide +kernel
theorem dX11_draws_66 : decode cX11_draws 66 = .ok (.getfield 19, 3) := by decide +kernel
theorem dX11_draws_69 : decode cX11_draws 69 = .ok (.iload_n 3, 1) := by decide +kernel
theorem dX11_draws_70 : decode cX11_draws 70 = .ok (.iconst 1, 1) := by decide +kernel
theorem dX11_draws_71 : decode cX11_draws 71 = .ok (.iadd, 1) := by decide +kernel
theorem dX11_draws_72 : decode cX11_draws 72 = .ok (.iaload, 1) := by decide +kernel
theorem dX11_draws_73 : decode cX11_draws 73 = .ok (.sipush 9999, 3) := by decide +kernel
theorem dX11_draws_76 : decode cX11_draws 76 = .ok (.if_icmp .le 9, 3) := by decide +kernel
theorem dX11_draws_79 : decode cX11_draws 79 = .ok (.sipush 9999, 3) := by decide +kernel
theorem dX11_draws_82 : decode cX11_draws 82 = .ok (.goto 11, 3) := by decide +kernel
theorem dX11_draws_85 : decode cX11_draws 85 = .ok (.aload_n 0, 1) := by decide +kernel
theorem dX11_draws_86 : decode cX11_draws 86 = .ok (.getfield 19, 3) := by decide +kernel
theorem dX11_draws_89 : decode cX11_draws 89 = .ok (.iload_n 3, 1) := by decide +kernel
theorem dX11_draws_90 : decode cX11_draws 90 = .ok (.iconst 1, 1) := by decide +kernel
theorem dX11_draws_91 : decode cX11_draws 91 = .ok (.iadd, 1) := by decide +kernel
theorem dX11_draws_92 : decode cX11_draws 92 = .ok (.iaload, 1) := by decide +kernel
theorem dX11_draws_93 : decode cX11_draws 93 = .ok (.iastore, 1) := by decide +kernel
theorem dX11_draws_94 : decode cX11_draws 94 = .ok (.aload_n 0, 1) := by decide +kernel
theorem dX11_draws_95 : decode cX11_draws 95 = .ok (.getfield 19, 3) := by decide +kernel
theorem dX11_draws_98 : decode cX11_draws 98 = .ok (.iconst 2, 1) := by decide +kernel
theorem dX11_draws_99 : decode cX11_draws 99 = .ok (.dup2, 1) := by decide +kernel
theorem dX11_draws_100 : decode cX11_draws 100 = .ok (.iaload, 1) := by decide +kernel
theorem dX11_draws_101 : decode cX11_draws 101 = .ok (.iload_n 2, 1) := by decide +kernel
theorem dX11_draws_102 : decode cX11_draws 102 = .ok (.iconst 1, 1) := by decide +kernel
theorem dX11_draws_103 : decode cX11_draws 103 = .ok (.if_icmp .ne 7, 3) := by decide +kernel
theorem dX11_draws_106 : decode cX11_draws 106 = .ok (.iconst (-1), 1) := by decide +kernel
theorem dX11_draws_107 : decode cX11_draws 107 = .ok (.goto 8, 3) := by decide +kernel
theorem dX11_draws_110 : decode cX11_draws 110 = .ok (.iconst 1, 1) := by decide +kernel
theorem dX11_draws_111 : decode cX11_draws 111 = .ok (.iload_n 1, 1) := by decide +kernel
theorem dX11_draws_112 : decode cX11_draws 112 = .ok (.ishl, 1) := by decide +kernel
theorem dX11_draws_113 : decode cX11_draws 113 = .ok (.iconst (-1), 1) := by decide +kernel
theorem dX11_draws_114 : decode cX11_draws 114 = .ok (.ixor, 1) := by decide +kernel
theorem dX11_draws_115 : decode cX11_draws 115 = .ok (.iand, 1) := by decide +kernel
theorem dX11_draws_116 : decode cX11_draws 116 = .ok (.iastore, 1) := by decide +kernel
theorem dX11_draws_117 : decode cX11_draws 117 = .ok (.aload_n 0, 1) := by decide +kernel
theorem dX11_draws_118 : decode cX11_draws 118 = .ok (.getfield 19, 3) := by decide +kernel
theorem dX11_draws_121 : decode cX11_draws 121 = .ok (.iconst 1, 1) := by decide +kernel
theorem dX11_draws_122 : decode cX11_draws 122 = .ok (.dup2, 1) := by decide +kernel
theorem dX11_draws_123 : decode cX11_draws 123 = .ok (.iaload, 1) := by decide +kernel
theorem dX11_draws_124 : decode cX11_draws 124 = .ok (.iconst 1, 1) := by decide +kernel
theorem dX11_draws_125 : decode cX11_draws 125 = .ok (.iadd, 1) := by decide +kernel
theorem dX11_draws_126 : decode cX11_draws 126 = .ok (.iastore, 1) := by decide +kernel
theorem dX11_draws_127 : decode cX11_draws 127 = .ok (.aload_n 0, 1) := by decide +kernel
theorem dX11_draws_128 : decode cX11_draws 128 = .ok (.getfield 19, 3) := by decide +kernel
theorem dX11_draws_131 : decode cX11_draws 131 = .ok (.iconst 1, 1) := by decide +kernel
theorem dX11_draws_132 : decode cX11_draws 132 = .ok (.iaload, 1) := by decide +kernel
theorem dX11_draws_133 : decode cX11_draws 133 = .ok (.aload_n 0, 1) := by decide +kernel
theorem dX11_draws_134 : decode cX11_draws 134 = .ok (.getfield 13, 3) := by decide +kernel
theorem dX11_draws_137 : decode cX11_draws 137 = .ok (.iconst 2, 1) := by decide +kernel
theorem dX11_draws_138 : decode cX11_draws 138 = .ok (.iaload, 1) := by decide +kernel
theorem dX11_draws_139 : decode cX11_draws 139 = .ok (.if_icmp .eq 12, 3) := by decide +kernel
theorem dX11_draws_142 : decode cX11_draws 142 = .ok (.aload_n 0, 1) := by decide +kernel
theorem dX11_draws_143 : decode cX11_draws 143 = .ok (.getfield 19, 3) := by decide +kernel
theorem dX11_draws_146 : decode cX11_draws 146 = .ok (.iconst 2, 1) := by decide +kernel
theorem dX11_draws_147 : decode cX11_draws 147 = .ok (.iaload, 1) := by decide +kernel
theorem dX11_draws_148 : decode cX11_draws 148 = .ok (.ifCond .ne 30, 3) := by decide +kernel
theorem dX11_draws_151 : decode cX11_draws 151 = .ok (.aload_n 0, 1) := by decide +kernel
theorem dX11_draws_152 : decode cX11_draws 152 = .ok (.getfield 19, 3) := by decide +kernel
theorem dX11_draws_155 : decode cX11_draws 155 = .ok (.iconst 2, 1) := by decide +kernel
theorem dX11_draws_156 : decode cX11_draws 156 = .ok (.aload_n 0, 1) := by decide +kernel
theorem dX11_draws_157 : decode cX11_draws 157 = .ok (.invokevirtual 107, 3) := by decide +kernel
theorem dX11_draws_160 : decode cX11_draws 160 = .ok (.iastore, 1) := by decide +kernel
theorem dX11_draws_161 : decode cX11_draws 161 = .ok (.aload_n 0, 1) := by decide +kernel
theorem dX11_draws_162 : decode cX11_draws 162 = .ok (.getfield 19, 3) := by decide +kernel
theorem dX11_draws_165 : decode cX11_draws 165 = .ok (.iconst 0, 1) := by decide +kernel
theorem dX11_draws_166 : decode cX11_draws 166 = .ok (.dup2, 1) := by decide +kernel
theorem dX11_draws_167 : decode cX11_draws 167 = .ok (.iaload, 1) := by decide +kernel
theorem dX11_draws_168 : decode cX11_draws 168 = .ok (.iconst 1, 1) := by decide +kernel
theorem dX11_draws_169 : decode cX11_draws 169 = .ok (.iadd, 1) := by decide +kernel
theorem dX11_draws_170 : decode cX11_draws 170 = .ok (.iastore, 1) := by decide +kernel
theorem dX11_draws_171 : decode cX11_draws 171 = .ok (.aload_n 0, 1) := by decide +kernel
theorem dX11_draws_172 : decode cX11_draws 172 = .ok (.getfield 19, 3) := by decide +kernel
theorem dX11_draws_175 : decode cX11_draws 175 = .ok (.iconst 1, 1) := by decide +kernel
theorem dX11_draws_176 : decode cX11_draws 176 = .ok (.iconst 0, 1) := by decide +kernel
theorem dX11_draws_177 : decode cX11_draws 177 = .ok (.iastore, 1) := by decide +kernel
theorem dX11_draws_178 : decode cX11_draws 178 = .ok (.return_, 1) := by decide +kernel
set_option maxRecDepth 20000 in
theorem ggX11_draw_X11_isTicket : GoodIn wsX11_draw wsX11_isTicket := goodIn_r _ [11, 6, 12, 13, 10, 14, 33, 34, 35, 36, 37, 38, 39, 40, 41, 42, 43, 44, 45, 46, 47, 48, 49, 50, 51, 52, 53, 54, 55, 56, 57, 58, 59] (by decide +kernel) (by decide +kernel)
set_option maxRecDepth 20000 in
theorem gX11_draw_X11_isTicket : GoodIn wsX11_draw (wsV RX11 146 RX11 yX11_isTicket wsX11_isTicket) := goodIn_app (goodIn_of _ (by decide +kernel)) ggX11_draw_X11_isTicket
set_option maxRecDepth 20000 in
theorem ggX11_draw_X11_notes : GoodIn wsX11_draw wsX11_notes := goodIn_r _ [18, 19, 20, 2, 33, 34, 35, 36, 37, 38, 39, 40, 41, 42, 43, 44, 45, 46, 47, 48, 49, 50, 51, 52, 53, 54, 55, 56, 57, 58, 59] (by decide +kernel) (by decide +kernel)
set_option maxRecDepth 20000 in
theorem gX11_draw_X11_notes : GoodIn wsX11_draw (wsV RX11 153 RX11 yX11_notes wsX11_notes) := goodIn_app (goodIn_of _ (by decide +kernel)) ggX11_draw_X11_notes
set_option maxRecDepth 20000 in
theorem ggX11_draw_X11_draws : GoodIn wsX11_draw wsX11_draws := goodIn_r _ [24, 2, 6, 25, 26, 27, 10, 28, 29, 30, 31, 32, 33, 34, 35, 36, 37, 38, 39, 40, 41, 42, 43, 44, 45, 46, 47, 48, 49, 50, 51, 52, 53, 54, 55, 56, 57, 58, 59] (by decide +kernel) (by decide +kernel)
set_option maxRecDepth 20000 in
theorem gX11_draw_X11_draws : GoodIn wsX11_draw (wsV RX11 156 RX11 yX11_draws wsX11_draws) := goodIn_app (goodIn_of _ (by decide +kernel)) ggX11_draw_X11_draws
set_option maxRecDepth 20000 in
theorem ggX11_draw_X11_who : GoodIn wsX11_draw wsX11_who := goodIn_r _ [28, 2, 33, 34, 35, 36, 37, 38, 39, 40, 41, 42, 43, 44, 45, 46, 47, 48, 49, 50, 51, 52, 53, 54, 55, 56, 57, 58, 59] (by decide +kernel) (by decide +kernel)
set_option maxRecDepth 20000 in
theorem gX11_draw_X11_who : GoodIn wsX11_draw (wsV RX11 126 RX11 yX11_who wsX11_who) := goodIn_app (goodIn_of _ (by decide +kernel)) ggX11_draw_X11_who
theorem dX11_draw_0 : decode cX11_draw 0 = .ok (.aload_n 0, 1) := by decide +kernel
theorem dX11_draw_1 : decode cX11_draw 1 = .ok (.iload_n 1, 1) := by decide +kernel
theorem dX11_draw_2 : decode cX11_draw 2 = .ok (.invokevirtual 146, 3) := by decide +kernel
theorem dX11_draw_5 : decode cX11_draw 5 = .ok (.ifCond .ne 6, 3) := by decide +kernel
theorem dX11_draw_8 : decode cX11_draw 8 = .ok (.ldc 139, 2) := by decide +kernel
theorem dX11_draw_10 : decode cX11_draw 10 = .ok (.ireturn, 1) := by decide +kernel
theorem dX11_draw_11 : decode cX11_draw 11 = .ok (.aload_n 0, 1) := by decide +kernel
theorem dX11_draw_12 : decode cX11_draw 12 = .ok (.getfield 19, 3) := by decide +kernel
theorem dX11_draw_15 : decode cX11_draw 15 = .ok (.iconst 2, 1) := by decide +kernel
theorem dX11_draw_16 : decode cX11_draw 16 = .ok (.iaload, 1) := by decide +kernel
theorem dX11_draw_17 : decode cX11_draw 17 = .ok (.iload_n 1, 1) := by decide +kernel
theorem dX11_draw_18 : decode cX11_draw 18 = .ok (.ishr, 1) := by decide +kernel
theorem dX11_draw_19 : decode cX11_draw 19 = .ok (.iconst 1, 1) := by decide +kernel
theorem dX11_draw_20 : decode cX11_draw 20 = .ok (.iand, 1) := by decide +kernel
theorem dX11_draw_21 : decode cX11_draw 21 = .ok (.ifCond .ne 6, 3) := by decide +kernel
theorem dX11_draw_24 : decode cX11_draw 24 = .ok (.ldc 151, 2) := by decide +kernel
theorem dX11_draw_26 : decode cX11_draw 26 = .ok (.ireturn, 1) := by decide +kernel
theorem dX11_draw_27 : decode cX11_draw 27 = .ok (.aload_n 0, 1) := by decide +kernel
theorem dX11_draw_28 : decode cX11_draw 28 = .ok (.getfield 19, 3) := by decide +kernel
theorem dX11_draw_31 : decode cX11_draw 31 = .ok (.iconst 0, 1) := by decide +kernel
theorem dX11_draw_32 : decode cX11_draw 32 = .ok (.iaload, 1) := by decide +kernel
theorem dX11_draw_33 : decode cX11_draw 33 = .ok (.ldc 152, 2) := by decide +kernel
theorem dX11_draw_35 : decode cX11_draw 35 = .ok (.if_icmp .le 6, 3) := by decide +kernel
theorem dX11_draw_38 : decode cX11_draw 38 = .ok (.ldc 75, 2) := by decide +kernel
theorem dX11_draw_40 : decode cX11_draw 40 = .ok (.ireturn, 1) := by decide +kernel
theorem dX11_draw_41 : decode cX11_draw 41 = .ok (.aload_n 0, 1) := by decide +kernel
theorem dX11_draw_42 : decode cX11_draw 42 = .ok (.invokevirtual 153, 3) := by decide +kernel
theorem dX11_draw_45 : decode cX11_draw 45 = .ok (.aload_n 0, 1) := by decide +kernel
theorem dX11_draw_46 : decode cX11_draw 46 = .ok (.iload_n 1, 1) := by decide +kernel
theorem dX11_draw_47 : decode cX11_draw 47 = .ok (.aload_n 0, 1) := by decide +kernel
theorem dX11_draw_48 : decode cX11_draw 48 = .ok (.getfield 13, 3) := by decide +kernel
theorem dX11_draw_51 : decode cX11_draw 51 = .ok (.iconst 3, 1) := by decide +kernel
theorem dX11_draw_52 : decode cX11_draw 52 = .ok (.iaload, 1) := by decide +kernel
theorem dX11_draw_53 : decode cX11_draw 53 = .ok (.invokevirtual 156, 3) := by decide +kernel
theorem dX11_draw_56 : decode cX11_draw 56 = .ok (.aload_n 0, 1) := by decide +kernel
theorem dX11_draw_57 : decode cX11_draw 57 = .ok (.iload_n 1, 1) := by decide +kernel
theorem dX11_draw_58 : decode cX11_draw 58 = .ok (.invokevirtual 126, 3) := by decide +kernel
theorem dX11_draw_61 : decode cX11_draw 61 = .ok (.ireturn, 1) := by decide +kernel
set_option maxRecDepth 20000 in
theorem ggX11_lot_X11_weightOf : GoodIn wsX11_lot wsX11_weightOf := goodIn_r _ [11, 12, 13, 14, 15, 10, 16, 17, 18, 19, 20, 21, 22, 23, 24, 25, 26, 27, 28, 29, 30, 31, 32, 33, 34, 35, 36, 37, 38, 39, 40, 41, 42, 43] (by decide +kernel) (by decide +kernel)
set_option maxRecDepth 20000 in
theorem gX11_lot_X11_weightOf : GoodIn wsX11_lot (wsV RX11 129 RX11 yX11_weightOf wsX11_weightOf) := goodIn_app (goodIn_of _ (by decide +kernel)) ggX11_lot_X11_weightOf
set_option maxRecDepth 20000 in
theorem ggX11_lot_X11_weight : GoodIn wsX11_lot wsX11_weight := goodIn_r _ [16, 12, 17, 18, 19, 20, 21, 22, 23, 24, 25, 26, 27, 28, 29, 30, 31, 32, 33, 34, 35, 36, 37, 38, 39, 40, 41, 42, 43] (by decide +kernel) (by decide +kernel)
set_option maxRecDepth 20000 in
theorem gX11_lot_X11_weight : GoodIn wsX11_lot (wsV RX11 122 RX11 yX11_weight wsX11_weight) := goodIn_app (goodIn_of _ (by decide +kernel)) ggX11_lot_X11_weight
theorem dX11_lot_0 : decode cX11_lot 0 = .ok (.aload_n 0, 1) := by decide +kernel
theorem dX11_lot_1 : decode cX11_lot 1 = .ok (.aload_n 0, 1) := by decide +kernel
theorem dX11_lot_2 : decode cX11_lot 2 = .ok (.getfield 159, 3) := by decide +kernel
theorem dX11_lot_5 : decode cX11_lot 5 = .ok (.i2l, 1) := by decide +kernel
theorem dX11_lot_6 : decode cX11_lot 6 = .ok (.ldc2_w 162, 3) := by decide +kernel
theorem dX11_lot_9 : decode cX11_lot 9 = .ok (.lmul, 1) := by decide +kernel
theorem dX11_lot_10 : decode cX11_lot 10 = .ok (.ldc2_w 164, 3) := by decide +kernel
theorem dX11_lot_13 : decode cX11_lot 13 = .ok (.ladd, 1) := by decide +kernel
theorem dX11_lot_14 : decode cX11_lot 14 = .ok (.ldc2_w 166, 3) := by decide +kernel
theorem dX11_lot_17 : decode cX11_lot 17 = .ok (.lrem, 1) := by decide +kernel
theorem dX11_lot_18 : decode cX11_lot 18 = .ok (.l2i, 1) := by decide +kernel
theorem dX11_lot_19 : decode cX11_lot 19 = .ok (.putfield 159, 3) := by decide +kernel
theorem dX11_lot_22 : decode cX11_lot 22 = .ok (.aload_n 0, 1) := by decide +kernel
theorem dX11_lot_23 : decode cX11_lot 23 = .ok (.getfield 159, 3) := by decide +kernel
theorem dX11_lot_26 : decode cX11_lot 26 = .ok (.ldc 168, 2) := by decide +kernel
theorem dX11_lot_28 : decode cX11_lot 28 = .ok (.idiv, 1) := by decide +kernel
theorem dX11_lot_29 : decode cX11_lot 29 = .ok (.aload_n 0, 1) := by decide +kernel
theorem dX11_lot_30 : decode cX11_lot 30 = .ok (.aload_n 0, 1) := by decide +kernel
theorem dX11_lot_31 : decode cX11_lot 31 = .ok (.getfield 19, 3) := by decide +kernel
theorem dX11_lot_34 : decode cX11_lot 34 = .ok (.iconst 2, 1) := by decide +kernel
theorem dX11_lot_35 : decode cX11_lot 35 = .ok (.iaload, 1) := by decide +kernel
theorem dX11_lot_36 : decode cX11_lot 36 = .ok (.invokevirtual 129, 3) := by decide +kernel
theorem dX11_lot_39 : decode cX11_lot 39 = .ok (.irem, 1) := by decide +kernel
theorem dX11_lot_40 : decode cX11_lot 40 = .ok (.istore_n 1, 1) := by decide +kernel
theorem dX11_lot_41 : decode cX11_lot 41 = .ok (.iconst 0, 1) := by decide +kernel
theorem dX11_lot_42 : decode cX11_lot 42 = .ok (.istore_n 2, 1) := by decide +kernel
theorem dX11_lot_43 : decode cX11_lot 43 = .ok (.aload_n 0, 1) := by decide +kernel
theorem dX11_lot_44 : decode cX11_lot 44 = .ok (.getfield 19, 3) := by decide +kernel
theorem dX11_lot_47 : decode cX11_lot 47 = .ok (.iconst 2, 1) := by decide +kernel
theorem dX11_lot_48 : decode cX11_lot 48 = .ok (.iaload, 1) := by decide +kernel
theorem dX11_lot_49 : decode cX11_lot 49 = .ok (.iload_n 2, 1) := by decide +kernel
theorem dX11_lot_50 : decode cX11_lot 50 = .ok (.ishr, 1) := by decide +kernel
theorem dX11_lot_51 : decode cX11_lot 51 = .ok (.iconst 1, 1) := by decide +kernel
theorem dX11_lot_52 : decode cX11_lot 52 = .ok (.iand, 1) := by decide +kernel
theorem dX11_lot_53 : decode cX11_lot 53 = .ok (.ifCond .eq 12, 3) := by decide +kernel
theorem dX11_lot_56 : decode cX11_lot 56 = .ok (.iload_n 1, 1) := by decide +kernel
theorem dX11_lot_57 : decode cX11_lot 57 = .ok (.aload_n 0, 1) := by decide +kernel
theorem dX11_lot_58 : decode cX11_lot 58 = .ok (.iload_n 2, 1) := by decide +kernel
theorem dX11_lot_59 : decode cX11_lot 59 = .ok (.invokevirtual 122, 3) := by decide +kernel
theorem dX11_lot_62 : decode cX11_lot 62 = .ok (.if_icmp .lt 35, 3) := by decide +kernel
theorem dX11_lot_65 : decode cX11_lot 65 = .ok (.iload_n 1, 1) := by decide +kernel
theorem dX11_lot_66 : decode cX11_lot 66 = .ok (.aload_n 0, 1) := by decide +kernel
theorem dX11_lot_67 : decode cX11_lot 67 = .ok (.getfield 19, 3) := by decide +kernel
theorem dX11_lot_70 : decode cX11_lot 70 = .ok (.iconst 2, 1) := by decide +kernel
theorem dX11_lot_71 : decode cX11_lot 71 = .ok (.iaload, 1) := by decide +kernel
theorem dX11_lot_72 : decode cX11_lot 72 = .ok (.iload_n 2, 1) := by decide +kernel
theorem dX11_lot_73 : decode cX11_lot 73 = .ok (.ishr, 1) := by decide +kernel
theorem dX11_lot_74 : decode cX11_lot 74 = .ok (.iconst 1, 1) := by decide +kernel
theorem dX11_lot_75 : decode cX11_lot 75 = .ok (.iand, 1) := by decide +kernel
theorem dX11_lot_76 : decode cX11_lot 76 = .ok (.iconst 1, 1) := by decide +kernel
theorem dX11_lot_77 : decode cX11_lot 77 = .ok (.if_icmp .ne 11, 3) := by decide +kernel
theorem dX11_lot_80 : decode cX11_lot 80 = .ok (.aload_n 0, 1) := by decide +kernel
theorem dX11_lot_81 : decode cX11_lot 81 = .ok (.iload_n 2, 1) := by decide +kernel
theorem dX11_lot_82 : decode cX11_lot 82 = .ok (.invokevirtual 122, 3) := by decide +kernel
theorem dX11_lot_85 : decode cX11_lot 85 = .ok (.goto 4, 3) := by decide +kernel
theorem dX11_lot_88 : decode cX11_lot 88 = .ok (.iconst 0, 1) := by decide +kernel
theorem dX11_lot_89 : decode cX11_lot 89 = .ok (.isub, 1) := by decide +kernel
theorem dX11_lot_90 : decode cX11_lot 90 = .ok (.istore_n 1, 1) := by decide +kernel
theorem dX11_lot_91 : decode cX11_lot 91 = .ok (.iinc 2 1, 3) := by decide +kernel
theorem dX11_lot_94 : decode cX11_lot 94 = .ok (.goto (-51), 3) := by decide +kernel
theorem dX11_lot_97 : decode cX11_lot 97 = .ok (.iload_n 2, 1) := by decide +kernel
theorem dX11_lot_98 : decode cX11_lot 98 = .ok (.ireturn, 1) := by decide +kernel
set_option maxRecDepth 20000 in
theorem ggX11_lots_X11_in : GoodIn wsX11_lots wsX11_in := goodIn_r _ [11] (by decide +kernel) (by decide +kernel)
set_option maxRecDepth 20000 in
theorem gX11_lots_X11_in : GoodIn wsX11_lots (va_wsS RX11 67 yX11_in wsX11_in) := goodIn_app (goodIn_of _ (by decide +kernel)) ggX11_lots_X11_in
set_option maxRecDepth 20000 in
theorem ggX11_lots_X11_notes : GoodIn wsX11_lots wsX11_notes := goodIn_r _ [15, 16, 17, 5, 47, 48, 49, 50, 51, 52, 53, 54, 55, 56, 57, 58, 59, 60, 61, 62, 63, 64, 65, 66, 67, 68, 69, 70, 71, 72, 73] (by decide +kernel) (by decide +kernel)
set_option maxRecDepth 20000 in
theorem gX11_lots_X11_notes : GoodIn wsX11_lots (wsV RX11 153 RX11 yX11_notes wsX11_notes) := goodIn_app (goodIn_of _ (by decide +kernel)) ggX11_lots_X11_notes
set_option maxRecDepth 20000 in
theorem ggX11_lots_X11_lot : GoodIn wsX11_lots wsX11_lot := goodIn_r _ [21, 22, 23, 24, 25, 26, 5, 27, 28, 29, 10, 30, 3, 31, 32, 33, 34, 47, 48, 49, 50, 51, 52, 53, 54, 55, 56, 57, 58, 59, 60, 61, 62, 63, 64, 65, 66, 67, 68, 69, 70, 71, 72, 73] (by decide +kernel) (by decide +kernel)
set_option maxRecDepth 20000 in
theorem gX11_lots_X11_lot : GoodIn wsX11_lots (wsV RX11 171 RX11 yX11_lot wsX11_lot) := goodIn_app (goodIn_of _ (by decide +kernel)) ggX11_lots_X11_lot
set_option maxRecDepth 20000 in
theorem ggX11_lots_X11_draws : GoodIn wsX11_lots wsX11_draws := goodIn_r _ [38, 5, 3, 39, 40, 41, 10, 42, 43, 44, 45, 46, 47, 48, 49, 50, 51, 52, 53, 54, 55, 56, 57, 58, 59, 60, 61, 62, 63, 64, 65, 66, 67, 68, 69, 70, 71, 72, 73] (by decide +kernel) (by decide +kernel)
set_option maxRecDepth 20000 in
theorem gX11_lots_X11_draws : GoodIn wsX11_lots (wsV RX11 156 RX11 yX11_draws wsX11_draws) := goodIn_app (goodIn_of _ (by decide +kernel)) ggX11_lots_X11_draws
theorem dX11_lots_0 : decode cX11_lots 0 = .ok (.iload_n 1, 1) := by decide +kernel
theorem dX11_lots_1 : decode cX11_lots 1 = .ok (.i2l, 1) := by decide +kernel
theorem dX11_lots_2 : decode cX11_lots 2 = .ok (.lconst 1, 1) := by decide +kernel
theorem dX11_lots_3 : decode cX11_lots 3 = .ok (.ldc2_w 169, 3) := by decide +kernel
theorem dX11_lots_6 : decode cX11_lots 6 = .ok (.invokestatic 67, 3) := by decide +kernel
theorem dX11_lots_9 : decode cX11_lots 9 = .ok (.ifCond .ne 6, 3) := by decide +kernel
theorem dX11_lots_12 : decode cX11_lots 12 = .ok (.ldc 71, 2) := by decide +kernel
theorem dX11_lots_14 : decode cX11_lots 14 = .ok (.ireturn, 1) := by decide +kernel
theorem dX11_lots_15 : decode cX11_lots 15 = .ok (.aload_n 0, 1) := by decide +kernel
theorem dX11_lots_16 : decode cX11_lots 16 = .ok (.getfield 13, 3) := by decide +kernel
theorem dX11_lots_19 : decode cX11_lots 19 = .ok (.iconst 1, 1) := by decide +kernel
theorem dX11_lots_20 : decode cX11_lots 20 = .ok (.iaload, 1) := by decide +kernel
theorem dX11_lots_21 : decode cX11_lots 21 = .ok (.ifCond .ne 6, 3) := by decide +kernel
theorem dX11_lots_24 : decode cX11_lots 24 = .ok (.ldc 151, 2) := by decide +kernel
theorem dX11_lots_26 : decode cX11_lots 26 = .ok (.ireturn, 1) := by decide +kernel
theorem dX11_lots_27 : decode cX11_lots 27 = .ok (.aload_n 0, 1) := by decide +kernel
theorem dX11_lots_28 : decode cX11_lots 28 = .ok (.getfield 19, 3) := by decide +kernel
theorem dX11_lots_31 : decode cX11_lots 31 = .ok (.iconst 0, 1) := by decide +kernel
theorem dX11_lots_32 : decode cX11_lots 32 = .ok (.iaload, 1) := by decide +kernel
theorem dX11_lots_33 : decode cX11_lots 33 = .ok (.ldc 152, 2) := by decide +kernel
theorem dX11_lots_35 : decode cX11_lots 35 = .ok (.if_icmp .le 6, 3) := by decide +kernel
theorem dX11_lots_38 : decode cX11_lots 38 = .ok (.ldc 75, 2) := by decide +kernel
theorem dX11_lots_40 : decode cX11_lots 40 = .ok (.ireturn, 1) := by decide +kernel
theorem dX11_lots_41 : decode cX11_lots 41 = .ok (.iconst (-1), 1) := by decide +kernel
theorem dX11_lots_42 : decode cX11_lots 42 = .ok (.istore_n 2, 1) := by decide +kernel
theorem dX11_lots_43 : decode cX11_lots 43 = .ok (.iconst 0, 1) := by decide +kernel
theorem dX11_lots_44 : decode cX11_lots 44 = .ok (.istore_n 3, 1) := by decide +kernel
theorem dX11_lots_45 : decode cX11_lots 45 = .ok (.iload_n 3, 1) := by decide +kernel
theorem dX11_lots_46 : decode cX11_lots 46 = .ok (.iload_n 1, 1) := by decide +kernel
theorem dX11_lots_47 : decode cX11_lots 47 = .ok (.if_icmp .ge 29, 3) := by decide +kernel
theorem dX11_lots_50 : decode cX11_lots 50 = .ok (.aload_n 0, 1) := by decide +kernel
theorem dX11_lots_51 : decode cX11_lots 51 = .ok (.invokevirtual 153, 3) := by decide +kernel
theorem dX11_lots_54 : decode cX11_lots 54 = .ok (.aload_n 0, 1) := by decide +kernel
theorem dX11_lots_55 : decode cX11_lots 55 = .ok (.invokevirtual 171, 3) := by decide +kernel
theorem dX11_lots_58 : decode cX11_lots 58 = .ok (.istore_n 2, 1) := by decide +kernel
theorem dX11_lots_59 : decode cX11_lots 59 = .ok (.aload_n 0, 1) := by decide +kernel
theorem dX11_lots_60 : decode cX11_lots 60 = .ok (.iload_n 2, 1) := by decide +kernel
theorem dX11_lots_61 : decode cX11_lots 61 = .ok (.aload_n 0, 1) := by decide +kernel
theorem dX11_lots_62 : decode cX11_lots 62 = .ok (.getfield 13, 3) := by decide +kernel
theorem dX11_lots_65 : decode cX11_lots 65 = .ok (.iconst 3, 1) := by decide +kernel
theorem dX11_lots_66 : decode cX11_lots 66 = .ok (.iaload, 1) := by decide +kernel
theorem dX11_lots_67 : decode cX11_lots 67 = .ok (.invokevirtual 156, 3) := by decide +kernel
theorem dX11_lots_70 : decode cX11_lots 70 = .ok (.iinc 3 1, 3) := by decide +kernel
theorem dX11_lots_73 : decode cX11_lots 73 = .ok (.goto (-28), 3) := by decide +kernel
theorem dX11_lots_76 : decode cX11_lots 76 = .ok (.iload_n 2, 1) := by decide +kernel
theorem dX11_lots_77 : decode cX11_lots 77 = .ok (.ireturn, 1) := by decide +kernel
set_option maxRecDepth 20000 in
theorem ggX11_sell_X11_isTicket : GoodIn wsX11_sell wsX11_isTicket := goodIn_r _ [8, 9, 10, 11, 7, 12, 17, 18, 19, 20, 21, 22, 23, 24, 25, 26, 27, 28, 29, 30, 31, 32, 33, 34, 35, 36, 37, 38, 39, 40, 41, 42, 43] (by decide +kernel) (by decide +kernel)
set_option maxRecDepth 20000 in
theorem gX11_sell_X11_isTicket : GoodIn wsX11_sell (wsV RX11 146 RX11 yX11_isTicket wsX11_isTicket) := goodIn_app (goodIn_of _ (by decide +kernel)) ggX11_sell_X11_isTicket
set_option maxRecDepth 20000 in
theorem ggX11_sell_X11_isPerson : GoodIn wsX11_sell wsX11_isPerson := goodIn_r _ [16, 9, 10, 11, 7, 12, 17, 18, 19, 20, 21, 22, 23, 24, 25, 26, 27, 28, 29, 30, 31, 32, 33, 34, 35, 36, 37, 38, 39, 40, 41, 42, 43] (by decide +kernel) (by decide +kernel)
set_option maxRecDepth 20000 in
theorem gX11_sell_X11_isPerson : GoodIn wsX11_sell (wsV RX11 135 RX11 yX11_isPerson wsX11_isPerson) := goodIn_app (goodIn_of _ (by decide +kernel)) ggX11_sell_X11_isPerson
theorem dX11_sell_0 : decode cX11_sell 0 = .ok (.aload_n 0, 1) := by decide +kernel
theorem dX11_sell_1 : decode cX11_sell 1 = .ok (.iload_n 1, 1) := by decide +kernel
theorem dX11_sell_2 : decode cX11_sell 2 = .ok (.invokevirtual 146, 3) := by decide +kernel
theorem dX11_sell_5 : decode cX11_sell 5 = .ok (.ifCond .eq 11, 3) := by decide +kernel
theorem dX11_sell_8 : decode cX11_sell 8 = .ok (.aload_n 0, 1) := by decide +kernel
theorem dX11_sell_9 : decode cX11_sell 9 = .ok (.iload_n 2, 1) := by decide +kernel
theorem dX11_sell_10 : decode cX11_sell 10 = .ok (.invokevirtual 135, 3) := by decide +kernel
theorem dX11_sell_13 : decode cX11_sell 13 = .ok (.ifCond .ne 6, 3) := by decide +kernel
theorem dX11_sell_16 : decode cX11_sell 16 = .ok (.ldc 139, 2) := by decide +kernel
theorem dX11_sell_18 : decode cX11_sell 18 = .ok (.ireturn, 1) := by decide +kernel
theorem dX11_sell_19 : decode cX11_sell 19 = .ok (.bipush 15, 2) := by decide +kernel
theorem dX11_sell_21 : decode cX11_sell 21 = .ok (.iconst 3, 1) := by decide +kernel
theorem dX11_sell_22 : decode cX11_sell 22 = .ok (.iload_n 1, 1) := by decide +kernel
theorem dX11_sell_23 : decode cX11_sell 23 = .ok (.imul, 1) := by decide +kernel
theorem dX11_sell_24 : decode cX11_sell 24 = .ok (.iadd, 1) := by decide +kernel
theorem dX11_sell_25 : decode cX11_sell 25 = .ok (.istore_n 3, 1) := by decide +kernel
theorem dX11_sell_26 : decode cX11_sell 26 = .ok (.aload_n 0, 1) := by decide +kernel
theorem dX11_sell_27 : decode cX11_sell 27 = .ok (.getfield 19, 3) := by decide +kernel
theorem dX11_sell_30 : decode cX11_sell 30 = .ok (.iload_n 3, 1) := by decide +kernel
theorem dX11_sell_31 : decode cX11_sell 31 = .ok (.iconst 2, 1) := by decide +kernel
theorem dX11_sell_32 : decode cX11_sell 32 = .ok (.iadd, 1) := by decide +kernel
theorem dX11_sell_33 : decode cX11_sell 33 = .ok (.iaload, 1) := by decide +kernel
theorem dX11_sell_34 : decode cX11_sell 34 = .ok (.istore 4, 2) := by decide +kernel
theorem dX11_sell_36 : decode cX11_sell 36 = .ok (.aload_n 0, 1) := by decide +kernel
theorem dX11_sell_37 : decode cX11_sell 37 = .ok (.getfield 19, 3) := by decide +kernel
theorem dX11_sell_40 : decode cX11_sell 40 = .ok (.iload_n 3, 1) := by decide +kernel
theorem dX11_sell_41 : decode cX11_sell 41 = .ok (.iaload, 1) := by decide +kernel
theorem dX11_sell_42 : decode cX11_sell 42 = .ok (.iload_n 2, 1) := by decide +kernel
theorem dX11_sell_43 : decode cX11_sell 43 = .ok (.if_icmp .eq 32, 3) := by decide +kernel
theorem dX11_sell_46 : decode cX11_sell 46 = .ok (.aload_n 0, 1) := by decide +kernel
theorem dX11_sell_47 : decode cX11_sell 47 = .ok (.getfield 19, 3) := by decide +kernel
theorem dX11_sell_50 : decode cX11_sell 50 = .ok (.iload_n 3, 1) := by decide +kernel
theorem dX11_sell_51 : decode cX11_sell 51 = .ok (.iconst 1, 1) := by decide +kernel
theorem dX11_sell_52 : decode cX11_sell 52 = .ok (.iadd, 1) := by decide +kernel
theorem dX11_sell_53 : decode cX11_sell 53 = .ok (.iaload, 1) := by decide +kernel
theorem dX11_sell_54 : decode cX11_sell 54 = .ok (.iconst (-1), 1) := by decide +kernel
theorem dX11_sell_55 : decode cX11_sell 55 = .ok (.if_icmp .ne 20, 3) := by decide +kernel
theorem dX11_sell_58 : decode cX11_sell 58 = .ok (.aload_n 0, 1) := by decide +kernel
theorem dX11_sell_59 : decode cX11_sell 59 = .ok (.getfield 19, 3) := by decide +kernel
theorem dX11_sell_62 : decode cX11_sell 62 = .ok (.iconst 3, 1) := by decide +kernel
theorem dX11_sell_63 : decode cX11_sell 63 = .ok (.iconst 2, 1) := by decide +kernel
theorem dX11_sell_64 : decode cX11_sell 64 = .ok (.iload_n 2, 1) := by decide +kernel
theorem dX11_sell_65 : decode cX11_sell 65 = .ok (.imul, 1) := by decide +kernel
theorem dX11_sell_66 : decode cX11_sell 66 = .ok (.iadd, 1) := by decide +kernel
theorem dX11_sell_67 : decode cX11_sell 67 = .ok (.iconst 1, 1) := by decide +kernel
theorem dX11_sell_68 : decode cX11_sell 68 = .ok (.iadd, 1) := by decide +kernel
theorem dX11_sell_69 : decode cX11_sell 69 = .ok (.iaload, 1) := by decide +kernel
theorem dX11_sell_70 : decode cX11_sell 70 = .ok (.iload 4, 2) := by decide +kernel
theorem dX11_sell_72 : decode cX11_sell 72 = .ok (.if_icmp .ge 6, 3) := by decide +kernel
theorem dX11_sell_75 : decode cX11_sell 75 = .ok (.ldc 151, 2) := by decide +kernel
theorem dX11_sell_77 : decode cX11_sell 77 = .ok (.ireturn, 1) := by decide +kernel
theorem dX11_sell_78 : decode cX11_sell 78 = .ok (.iconst 3, 1) := by decide +kernel
theorem dX11_sell_79 : decode cX11_sell 79 = .ok (.iconst 2, 1) := by decide +kernel
theorem dX11_sell_80 : decode cX11_sell 80 = .ok (.aload_n 0, 1) := by decide +kernel
theorem dX11_sell_81 : decode cX11_sell 81 = .ok (.getfield 19, 3) := by decide +kernel
theorem dX11_sell_84 : decode cX11_sell 84 = .ok (.iload_n 3, 1) := by decide +kernel
theorem dX11_sell_85 : decode cX11_sell 85 = .ok (.iaload, 1) := by decide +kernel
theorem dX11_sell_86 : decode cX11_sell 86 = .ok (.imul, 1) := by decide +kernel
theorem dX11_sell_87 : decode cX11_sell 87 = .ok (.iadd, 1) := by decide +kernel
theorem dX11_sell_88 : decode cX11_sell 88 = .ok (.iconst 1, 1) := by decide +kernel
theorem dX11_sell_89 : decode cX11_sell 89 = .ok (.iadd, 1) := by decide +kernel
theorem dX11_sell_90 : decode cX11_sell 90 = .ok (.istore 5, 2) := by decide +kernel
theorem dX11_sell_92 : decode cX11_sell 92 = .ok (.aload_n 0, 1) := by decide +kernel
theorem dX11_sell_93 : decode cX11_sell 93 = .ok (.getfield 19, 3) := by decide +kernel
theorem dX11_sell_96 : decode cX11_sell 96 = .ok (.iload 5, 2) := by decide +kernel
theorem dX11_sell_98 : decode cX11_sell 98 = .ok (.aload_n 0, 1) := by decide +kernel
theorem dX11_sell_99 : decode cX11_sell 99 = .ok (.getfield 19, 3) := by decide +kernel
theorem dX11_sell_102 : decode cX11_sell 102 = .ok (.iload 5, 2) := by decide +kernel
theorem dX11_sell_104 : decode cX11_sell 104 = .ok (.iaload, 1) := by decide +kernel
theorem dX11_sell_105 : decode cX11_sell 105 = .ok (.iload 4, 2) := by decide +kernel
theorem dX11_sell_107 : decode cX11_sell 107 = .ok (.iadd, 1) := by decide +kernel
theorem dX11_sell_108 : decode cX11_sell 108 = .ok (.sipush 9999, 3) := by decide +kernel
theorem dX11_sell_111 : decode cX11_sell 111 = .ok (.if_icmp .le 9, 3) := by decide +kernel
theorem dX11_sell_114 : decode cX11_sell 114 = .ok (.sipush 9999, 3) := by decide +kernel
theorem dX11_sell_117 : decode cX11_sell 117 = .ok (.goto 13, 3) := by decide +kernel
theorem dX11_sell_120 : decode cX11_sell 120 = .ok (.aload_n 0, 1) := by decide +kernel
theorem dX11_sell_121 : decode cX11_sell 121 = .ok (.getfield 19, 3) := by decide +kernel
theorem dX11_sell_124 : decode cX11_sell 124 = .ok (.iload 5, 2) := by decide +kernel
theorem dX11_sell_126 : decode cX11_sell 126 = .ok (.iaload, 1) := by decide +kernel
theorem dX11_sell_127 : decode cX11_sell 127 = .ok (.iload 4, 2) := by decide +kernel
theorem dX11_sell_129 : decode cX11_sell 129 = .ok (.iadd, 1) := by decide +kernel
theorem dX11_sell_130 : decode cX11_sell 130 = .ok (.iastore, 1) := by decide +kernel
theorem dX11_sell_131 : decode cX11_sell 131 = .ok (.aload_n 0, 1) := by decide +kernel
theorem dX11_sell_132 : decode cX11_sell 132 = .ok (.getfield 19, 3) := by decide +kernel
theorem dX11_sell_135 : decode cX11_sell 135 = .ok (.iconst 3, 1) := by decide +kernel
theorem dX11_sell_136 : decode cX11_sell 136 = .ok (.iconst 2, 1) := by decide +kernel
theorem dX11_sell_137 : decode cX11_sell 137 = .ok (.iload_n 2, 1) := by decide +kernel
theorem dX11_sell_138 : decode cX11_sell 138 = .ok (.imul, 1) := by decide +kernel
theorem dX11_sell_139 : decode cX11_sell 139 = .ok (.iadd, 1) := by decide +kernel
theorem dX11_sell_140 : decode cX11_sell 140 = .ok (.iconst 1, 1) := by decide +kernel
theorem dX11_sell_141 : decode cX11_sell 141 = .ok (.iadd, 1) := by decide +kernel
theorem dX11_sell_142 : decode cX11_sell 142 = .ok (.dup2, 1) := by decide +kernel
theorem dX11_sell_143 : decode cX11_sell 143 = .ok (.iaload, 1) := by decide +kernel
theorem dX11_sell_144 : decode cX11_sell 144 = .ok (.iload 4, 2) := by decide +kernel
theorem dX11_sell_146 : decode cX11_sell 146 = .ok (.isub, 1) := by decide +kernel
theorem dX11_sell_147 : decode cX11_sell 147 = .ok (.iastore, 1) := by decide +kernel
theorem dX11_sell_148 : decode cX11_sell 148 = .ok (.aload_n 0, 1) := by decide +kernel
theorem dX11_sell_149 : decode cX11_sell 149 = .ok (.getfield 19, 3) := by decide +kernel
theorem dX11_sell_152 : decode cX11_sell 152 = .ok (.iload_n 3, 1) := by decide +kernel
theorem dX11_sell_153 : decode cX11_sell 153 = .ok (.iload_n 2, 1) := by decide +kernel
theorem dX11_sell_154 : decode cX11_sell 154 = .ok (.iastore, 1) := by decide +kernel
theorem dX11_sell_155 : decode cX11_sell 155 = .ok (.aload_n 0, 1) := by decide +kernel
theorem dX11_sell_156 : decode cX11_sell 156 = .ok (.getfield 19, 3) := by decide +kernel
theorem dX11_sell_159 : decode cX11_sell 159 = .ok (.iconst 3, 1) := by decide +kernel
theorem dX11_sell_160 : decode cX11_sell 160 = .ok (.iconst 2, 1) := by decide +kernel
theorem dX11_sell_161 : decode cX11_sell 161 = .ok (.iload_n 2, 1) := by decide +kernel
theorem dX11_sell_162 : decode cX11_sell 162 = .ok (.imul, 1) := by decide +kernel
theorem dX11_sell_163 : decode cX11_sell 163 = .ok (.iadd, 1) := by decide +kernel
theorem dX11_sell_164 : decode cX11_sell 164 = .ok (.iconst 1, 1) := by decide +kernel
theorem dX11_sell_165 : decode cX11_sell 165 = .ok (.iadd, 1) := by decide +kernel
theorem dX11_sell_166 : decode cX11_sell 166 = .ok (.iaload, 1) := by decide +kernel
theorem dX11_sell_167 : decode cX11_sell 167 = .ok (.ireturn, 1) := by decide +kernel
set_option maxRecDepth 20000 in
theorem ggX11_pawn_X11_isTicket : GoodIn wsX11_pawn wsX11_isTicket := goodIn_r _ [7, 8, 9, 10, 6, 11, 16, 17, 18, 19, 20, 21, 22, 23, 24, 25, 26, 27, 28, 29, 30, 31, 32, 33, 34, 35, 36, 37, 38, 39, 40, 41, 42] (by decide +kernel) (by decide +kernel)
set_option maxRecDepth 20000 in
theorem gX11_pawn_X11_isTicket : GoodIn wsX11_pawn (wsV RX11 146 RX11 yX11_isTicket wsX11_isTicket) := goodIn_app (goodIn_of _ (by decide +kernel)) ggX11_pawn_X11_isTicket
set_option maxRecDepth 20000 in
theorem ggX11_pawn_X11_isPerson : GoodIn wsX11_pawn wsX11_isPerson := goodIn_r _ [15, 8, 9, 10, 6, 11, 16, 17, 18, 19, 20, 21, 22, 23, 24, 25, 26, 27, 28, 29, 30, 31, 32, 33, 34, 35, 36, 37, 38, 39, 40, 41, 42] (by decide +kernel) (by decide +kernel)
set_option maxRecDepth 20000 in
theorem gX11_pawn_X11_isPerson : GoodIn wsX11_pawn (wsV RX11 135 RX11 yX11_isPerson wsX11_isPerson) := goodIn_app (goodIn_of _ (by decide +kernel)) ggX11_pawn_X11_isPerson
theorem dX11_pawn_0 : decode cX11_pawn 0 = .ok (.aload_n 0, 1) := by decide +kernel
theorem dX11_pawn_1 : decode cX11_pawn 1 = .ok (.iload_n 1, 1) := by decide +kernel
theorem dX11_pawn_2 : decode cX11_pawn 2 = .ok (.invokevirtual 146, 3) := by decide +kernel
theorem dX11_pawn_5 : decode cX11_pawn 5 = .ok (.ifCond .eq 16, 3) := by decide +kernel
theorem dX11_pawn_8 : decode cX11_pawn 8 = .ok (.iload_n 2, 1) := by decide +kernel
theorem dX11_pawn_9 : decode cX11_pawn 9 = .ok (.iconst (-1), 1) := by decide +kernel
theorem dX11_pawn_10 : decode cX11_pawn 10 = .ok (.if_icmp .eq 14, 3) := by decide +kernel
theorem dX11_pawn_13 : decode cX11_pawn 13 = .ok (.aload_n 0, 1) := by decide +kernel
theorem dX11_pawn_14 : decode cX11_pawn 14 = .ok (.iload_n 2, 1) := by decide +kernel
theorem dX11_pawn_15 : decode cX11_pawn 15 = .ok (.invokevirtual 135, 3) := by decide +kernel
theorem dX11_pawn_18 : decode cX11_pawn 18 = .ok (.ifCond .ne 6, 3) := by decide +kernel
theorem dX11_pawn_21 : decode cX11_pawn 21 = .ok (.ldc 139, 2) := by decide +kernel
theorem dX11_pawn_23 : decode cX11_pawn 23 = .ok (.ireturn, 1) := by decide +kernel
theorem dX11_pawn_24 : decode cX11_pawn 24 = .ok (.aload_n 0, 1) := by decide +kernel
theorem dX11_pawn_25 : decode cX11_pawn 25 = .ok (.getfield 19, 3) := by decide +kernel
theorem dX11_pawn_28 : decode cX11_pawn 28 = .ok (.bipush 15, 2) := by decide +kernel
theorem dX11_pawn_30 : decode cX11_pawn 30 = .ok (.iconst 3, 1) := by decide +kernel
theorem dX11_pawn_31 : decode cX11_pawn 31 = .ok (.iload_n 1, 1) := by decide +kernel
theorem dX11_pawn_32 : decode cX11_pawn 32 = .ok (.imul, 1) := by decide +kernel
theorem dX11_pawn_33 : decode cX11_pawn 33 = .ok (.iadd, 1) := by decide +kernel
theorem dX11_pawn_34 : decode cX11_pawn 34 = .ok (.iconst 1, 1) := by decide +kernel
theorem dX11_pawn_35 : decode cX11_pawn 35 = .ok (.iadd, 1) := by decide +kernel
theorem dX11_pawn_36 : decode cX11_pawn 36 = .ok (.iaload, 1) := by decide +kernel
theorem dX11_pawn_37 : decode cX11_pawn 37 = .ok (.istore_n 3, 1) := by decide +kernel
theorem dX11_pawn_38 : decode cX11_pawn 38 = .ok (.aload_n 0, 1) := by decide +kernel
theorem dX11_pawn_39 : decode cX11_pawn 39 = .ok (.getfield 19, 3) := by decide +kernel
theorem dX11_pawn_42 : decode cX11_pawn 42 = .ok (.bipush 15, 2) := by decide +kernel
theorem dX11_pawn_44 : decode cX11_pawn 44 = .ok (.iconst 3, 1) := by decide +kernel
theorem dX11_pawn_45 : decode cX11_pawn 45 = .ok (.iload_n 1, 1) := by decide +kernel
theorem dX11_pawn_46 : decode cX11_pawn 46 = .ok (.imul, 1) := by decide +kernel
theorem dX11_pawn_47 : decode cX11_pawn 47 = .ok (.iadd, 1) := by decide +kernel
theorem dX11_pawn_48 : decode cX11_pawn 48 = .ok (.iconst 1, 1) := by decide +kernel
theorem dX11_pawn_49 : decode cX11_pawn 49 = .ok (.iadd, 1) := by decide +kernel
theorem dX11_pawn_50 : decode cX11_pawn 50 = .ok (.iload_n 2, 1) := by decide +kernel
theorem dX11_pawn_51 : decode cX11_pawn 51 = .ok (.iastore, 1) := by decide +kernel
theorem dX11_pawn_52 : decode cX11_pawn 52 = .ok (.iload_n 3, 1) := by decide +kernel
theorem dX11_pawn_53 : decode cX11_pawn 53 = .ok (.ireturn, 1) := by decide +kernel
set_option maxRecDepth 20000 in
theorem ggX11_price_X11_isTicket : GoodIn wsX11_price wsX11_isTicket := goodIn_r _ [9, 10, 11, 12, 8, 13, 14, 15, 16, 17, 18, 19, 20, 21, 22, 23, 24, 25, 26, 27, 28, 29, 30, 31, 32, 33, 34, 35, 36, 37, 38, 39, 40] (by decide +kernel) (by decide +kernel)
set_option maxRecDepth 20000 in
theorem gX11_price_X11_isTicket : GoodIn wsX11_price (wsV RX11 146 RX11 yX11_isTicket wsX11_isTicket) := goodIn_app (goodIn_of _ (by decide +kernel)) ggX11_price_X11_isTicket
set_option maxRecDepth 20000 in
theorem ggX11_price_X11_in : GoodIn wsX11_price wsX11_in := goodIn_r _ [13] (by decide +kernel) (by decide +kernel)
set_option maxRecDepth 20000 in
theorem gX11_price_X11_in : GoodIn wsX11_price (va_wsS RX11 67 yX11_in wsX11_in) := goodIn_app (goodIn_of _ (by decide +kernel)) ggX11_price_X11_in
theorem dX11_price_0 : decode cX11_price 0 = .ok (.aload_n 0, 1) := by decide +kernel
theorem dX11_price_1 : decode cX11_price 1 = .ok (.iload_n 1, 1) := by decide +kernel
theorem dX11_price_2 : decode cX11_price 2 = .ok (.invokevirtual 146, 3) := by decide +kernel
theorem dX11_price_5 : decode cX11_price 5 = .ok (.ifCond .ne 6, 3) := by decide +kernel
theorem dX11_price_8 : decode cX11_price 8 = .ok (.ldc 139, 2) := by decide +kernel
theorem dX11_price_10 : decode cX11_price 10 = .ok (.ireturn, 1) := by decide +kernel
theorem dX11_price_11 : decode cX11_price 11 = .ok (.iload_n 2, 1) := by decide +kernel
theorem dX11_price_12 : decode cX11_price 12 = .ok (.i2l, 1) := by decide +kernel
theorem dX11_price_13 : decode cX11_price 13 = .ok (.lconst 0, 1) := by decide +kernel
theorem dX11_price_14 : decode cX11_price 14 = .ok (.ldc2_w 169, 3) := by decide +kernel
theorem dX11_price_17 : decode cX11_price 17 = .ok (.invokestatic 67, 3) := by decide +kernel
theorem dX11_price_20 : decode cX11_price 20 = .ok (.ifCond .ne 6, 3) := by decide +kernel
theorem dX11_price_23 : decode cX11_price 23 = .ok (.ldc 71, 2) := by decide +kernel
theorem dX11_price_25 : decode cX11_price 25 = .ok (.ireturn, 1) := by decide +kernel
theorem dX11_price_26 : decode cX11_price 26 = .ok (.aload_n 0, 1) := by decide +kernel
theorem dX11_price_27 : decode cX11_price 27 = .ok (.getfield 19, 3) := by decide +kernel
theorem dX11_price_30 : decode cX11_price 30 = .ok (.bipush 15, 2) := by decide +kernel
theorem dX11_price_32 : decode cX11_price 32 = .ok (.iconst 3, 1) := by decide +kernel
theorem dX11_price_33 : decode cX11_price 33 = .ok (.iload_n 1, 1) := by decide +kernel
theorem dX11_price_34 : decode cX11_price 34 = .ok (.imul, 1) := by decide +kernel
theorem dX11_price_35 : decode cX11_price 35 = .ok (.iadd, 1) := by decide +kernel
theorem dX11_price_36 : decode cX11_price 36 = .ok (.iconst 2, 1) := by decide +kernel
theorem dX11_price_37 : decode cX11_price 37 = .ok (.iadd, 1) := by decide +kernel
theorem dX11_price_38 : decode cX11_price 38 = .ok (.iaload, 1) := by decide +kernel
theorem dX11_price_39 : decode cX11_price 39 = .ok (.istore_n 3, 1) := by decide +kernel
theorem dX11_price_40 : decode cX11_price 40 = .ok (.aload_n 0, 1) := by decide +kernel
theorem dX11_price_41 : decode cX11_price 41 = .ok (.getfield 19, 3) := by decide +kernel
theorem dX11_price_44 : decode cX11_price 44 = .ok (.bipush 15, 2) := by decide +kernel
theorem dX11_price_46 : decode cX11_price 46 = .ok (.iconst 3, 1) := by decide +kernel
theorem dX11_price_47 : decode cX11_price 47 = .ok (.iload_n 1, 1) := by decide +kernel
theorem dX11_price_48 : decode cX11_price 48 = .ok (.imul, 1) := by decide +kernel
theorem dX11_price_49 : decode cX11_price 49 = .ok (.iadd, 1) := by decide +kernel
theorem dX11_price_50 : decode cX11_price 50 = .ok (.iconst 2, 1) := by decide +kernel
theorem dX11_price_51 : decode cX11_price 51 = .ok (.iadd, 1) := by decide +kernel
theorem dX11_price_52 : decode cX11_price 52 = .ok (.iload_n 2, 1) := by decide +kernel
theorem dX11_price_53 : decode cX11_price 53 = .ok (.iastore, 1) := by decide +kernel
theorem dX11_price_54 : decode cX11_price 54 = .ok (.iload_n 3, 1) := by decide +kernel
theorem dX11_price_55 : decode cX11_price 55 = .ok (.ireturn, 1) := by decide +kernel
set_option maxRecDepth 20000 in
theorem ggX11_undo_X11_in : GoodIn wsX11_undo wsX11_in := goodIn_r _ [10] (by decide +kernel) (by decide +kernel)
set_option maxRecDepth 20000 in
theorem gX11_undo_X11_in : GoodIn wsX11_undo (va_wsS RX11 67 yX11_in wsX11_in) := goodIn_app (goodIn_of _ (by decide +kernel)) ggX11_undo_X11_in
theorem dX11_undo_0 : decode cX11_undo 0 = .ok (.iload_n 1, 1) := by decide +kernel
theorem dX11_undo_1 : decode cX11_undo 1 = .ok (.i2l, 1) := by decide +kernel
theorem dX11_undo_2 : decode cX11_undo 2 = .ok (.lconst 1, 1) := by decide +kernel
theorem dX11_undo_3 : decode cX11_undo 3 = .ok (.ldc2_w 174, 3) := by decide +kernel
theorem dX11_undo_6 : decode cX11_undo 6 = .ok (.invokestatic 67, 3) := by decide +kernel
theorem dX11_undo_9 : decode cX11_undo 9 = .ok (.ifCond .ne 6, 3) := by decide +kernel
theorem dX11_undo_12 : decode cX11_undo 12 = .ok (.ldc 71, 2) := by decide +kernel
theorem dX11_undo_14 : decode cX11_undo 14 = .ok (.ireturn, 1) := by decide +kernel
theorem dX11_undo_15 : decode cX11_undo 15 = .ok (.iload_n 1, 1) := by decide +kernel
theorem dX11_undo_16 : decode cX11_undo 16 = .ok (.aload_n 0, 1) := by decide +kernel
theorem dX11_undo_17 : decode cX11_undo 17 = .ok (.getfield 119, 3) := by decide +kernel
theorem dX11_undo_20 : decode cX11_undo 20 = .ok (.if_icmp .le 6, 3) := by decide +kernel
theorem dX11_undo_23 : decode cX11_undo 23 = .ok (.ldc 151, 2) := by decide +kernel
theorem dX11_undo_25 : decode cX11_undo 25 = .ok (.ireturn, 1) := by decide +kernel
theorem dX11_undo_26 : decode cX11_undo 26 = .ok (.aload_n 0, 1) := by decide +kernel
theorem dX11_undo_27 : decode cX11_undo 27 = .ok (.dup, 1) := by decide +kernel
theorem dX11_undo_28 : decode cX11_undo 28 = .ok (.getfield 119, 3) := by decide +kernel
theorem dX11_undo_31 : decode cX11_undo 31 = .ok (.iload_n 1, 1) := by decide +kernel
theorem dX11_undo_32 : decode cX11_undo 32 = .ok (.isub, 1) := by decide +kernel
theorem dX11_undo_33 : decode cX11_undo 33 = .ok (.putfield 119, 3) := by decide +kernel
theorem dX11_undo_36 : decode cX11_undo 36 = .ok (.iconst 0, 1) := by decide +kernel
theorem dX11_undo_37 : decode cX11_undo 37 = .ok (.istore_n 2, 1) := by decide +kernel
theorem dX11_undo_38 : decode cX11_undo 38 = .ok (.iload_n 2, 1) := by decide +kernel
theorem dX11_undo_39 : decode cX11_undo 39 = .ok (.bipush 39, 2) := by decide +kernel
theorem dX11_undo_41 : decode cX11_undo 41 = .ok (.if_icmp .ge 29, 3) := by decide +kernel
theorem dX11_undo_44 : decode cX11_undo 44 = .ok (.aload_n 0, 1) := by decide +kernel
theorem dX11_undo_45 : decode cX11_undo 45 = .ok (.getfield 19, 3) := by decide +kernel
theorem dX11_undo_48 : decode cX11_undo 48 = .ok (.iload_n 2, 1) := by decide +kernel
theorem dX11_undo_49 : decode cX11_undo 49 = .ok (.aload_n 0, 1) := by decide +kernel
theorem dX11_undo_50 : decode cX11_undo 50 = .ok (.getfield 22, 3) := by decide +kernel
theorem dX11_undo_53 : decode cX11_undo 53 = .ok (.bipush 39, 2) := by decide +kernel
theorem dX11_undo_55 : decode cX11_undo 55 = .ok (.aload_n 0, 1) := by decide +kernel
theorem dX11_undo_56 : decode cX11_undo 56 = .ok (.getfield 119, 3) := by decide +kernel
theorem dX11_undo_59 : decode cX11_undo 59 = .ok (.imul, 1) := by decide +kernel
theorem dX11_undo_60 : decode cX11_undo 60 = .ok (.iload_n 2, 1) := by decide +kernel
theorem dX11_undo_61 : decode cX11_undo 61 = .ok (.iadd, 1) := by decide +kernel
theorem dX11_undo_62 : decode cX11_undo 62 = .ok (.iaload, 1) := by decide +kernel
theorem dX11_undo_63 : decode cX11_undo 63 = .ok (.iastore, 1) := by decide +kernel
theorem dX11_undo_64 : decode cX11_undo 64 = .ok (.iinc 2 1, 3) := by decide +kernel
theorem dX11_undo_67 : decode cX11_undo 67 = .ok (.goto (-29), 3) := by decide +kernel
theorem dX11_undo_70 : decode cX11_undo 70 = .ok (.aload_n 0, 1) := by decide +kernel
theorem dX11_undo_71 : decode cX11_undo 71 = .ok (.getfield 19, 3) := by decide +kernel
theorem dX11_undo_74 : decode cX11_undo 74 = .ok (.iconst 0, 1) := by decide +kernel
theorem dX11_undo_75 : decode cX11_undo 75 = .ok (.iaload, 1) := by decide +kernel
theorem dX11_undo_76 : decode cX11_undo 76 = .ok (.ireturn, 1) := by decide +kernel
theorem dX11_many_0 : decode cX11_many 0 = .ok (.iconst 0, 1) := by decide +kernel
theorem dX11_many_1 : decode cX11_many 1 = .ok (.istore_n 1, 1) := by decide +kernel
theorem dX11_many_2 : decode cX11_many 2 = .ok (.iload_n 0, 1) := by decide +kernel
theorem dX11_many_3 : decode cX11_many 3 = .ok (.istore_n 2, 1) := by decide +kernel
theorem dX11_many_4 : decode cX11_many 4 = .ok (.iload_n 2, 1) := by decide +kernel
theorem dX11_many_5 : decode cX11_many 5 = .ok (.ifCond .eq 15, 3) := by decide +kernel
theorem dX11_many_8 : decode cX11_many 8 = .ok (.iinc 1 1, 3) := by decide +kernel
theorem dX11_many_11 : decode cX11_many 11 = .ok (.iload_n 2, 1) := by decide +kernel
theorem dX11_many_12 : decode cX11_many 12 = .ok (.iload_n 2, 1) := by decide +kernel
theorem dX11_many_13 : decode cX11_many 13 = .ok (.iconst 1, 1) := by decide +kernel
theorem dX11_many_14 : decode cX11_many 14 = .ok (.isub, 1) := by decide +kernel
theorem dX11_many_15 : decode cX11_many 15 = .ok (.iand, 1) := by decide +kernel
theorem dX11_many_16 : decode cX11_many 16 = .ok (.istore_n 2, 1) := by decide +kernel
theorem dX11_many_17 : decode cX11_many 17 = .ok (.goto (-13), 3) := by decide +kernel
theorem dX11_many_20 : decode cX11_many 20 = .ok (.iload_n 1, 1) := by decide +kernel
theorem dX11_many_21 : decode cX11_many 21 = .ok (.ireturn, 1) := by decide +kernel
set_option maxRecDepth 20000 in
theorem ggX11_oddsOf_X11_oddsWith : GoodIn wsX11_oddsOf wsX11_oddsWith := goodIn_r _ [6, 7, 8, 9, 10, 11, 5, 12, 1, 13, 14, 15, 16, 17, 18, 19, 20, 30, 31, 32, 33, 34, 35, 36, 37, 38, 39, 40, 41, 42, 43, 44, 45, 46, 47, 48, 49, 50, 51, 52, 53, 54, 55, 56] (by decide +kernel) (by decide +kernel)
set_option maxRecDepth 20000 in
theorem gX11_oddsOf_X11_oddsWith : GoodIn wsX11_oddsOf (wsV RX11 176 RX11 yX11_oddsWith wsX11_oddsWith) := goodIn_app (goodIn_of _ (by decide +kernel)) ggX11_oddsOf_X11_oddsWith
set_option maxRecDepth 20000 in
theorem ggX11_oddsOf_X11_oddsWithout : GoodIn wsX11_oddsOf wsX11_oddsWithout := goodIn_r _ [24, 25, 8, 26, 1, 9, 10, 11, 5, 12, 13, 14, 15, 16, 27, 28, 29, 30, 31, 32, 33, 34, 35, 36, 37, 38, 39, 40, 41, 42, 43, 44, 45, 46, 47, 48, 49, 50, 51, 52, 53, 54, 55, 56] (by decide +kernel) (by decide +kernel)
set_option maxRecDepth 20000 in
theorem gX11_oddsOf_X11_oddsWithout : GoodIn wsX11_oddsOf (wsV RX11 180 RX11 yX11_oddsWithout wsX11_oddsWithout) := goodIn_app (goodIn_of _ (by decide +kernel)) ggX11_oddsOf_X11_oddsWithout
