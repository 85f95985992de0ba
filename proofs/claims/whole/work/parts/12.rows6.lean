set_option maxRecDepth 20000 in
theorem ggX6_init_X7_init : GoodIn wsX6_init wsX7_init := goodIn_r _ [16, 17, 2, 3, 12, 18, 19, 20, 21, 22, 6, 23, 24, 25, 26, 27, 60, 61, 62, 63, 64, 65] (by decide +kernel) (by decide +kernel)
set_option maxRecDepth 20000 in
theorem gX6_init_X7_init : GoodIn wsX6_init (wsX7_init) := ggX6_init_X7_init
set_option maxRecDepth 20000 in
theorem ggX6_init_X4_init : GoodIn wsX6_init wsX4_init := goodIn_r _ [30, 31, 2, 3, 12, 32, 33, 34, 35, 36, 37, 38, 39, 78, 79, 80, 81, 82, 83, 84, 85] (by decide +kernel) (by decide +kernel)
set_option maxRecDepth 20000 in
theorem gX6_init_X4_init : GoodIn wsX6_init (wsX4_init) := ggX6_init_X4_init
set_option maxRecDepth 20000 in
theorem ggX6_init_X6_begin : GoodIn wsX6_init wsX6_begin := goodIn_r _ [44, 7, 11, 45, 46, 47, 48, 49, 50, 51, 52, 53, 54, 55, 21, 22, 6, 23, 24, 25, 26, 27, 19, 56, 57, 58, 59, 66, 67, 68, 69, 70, 71, 72, 73, 74, 75, 76, 77, 78, 79, 80, 81, 82, 83, 84, 85, 60, 61, 62, 63, 64, 65] (by decide +kernel) (by decide +kernel)
set_option maxRecDepth 20000 in
theorem gX6_init_X6_begin : GoodIn wsX6_init (wsV RX6 29 RX6 yX6_begin wsX6_begin) := goodIn_app (goodIn_of _ (by decide +kernel)) ggX6_init_X6_begin
theorem dX6_init_0 : decode cX6_init 0 = .ok (.aload_n 0, 1) := by decide +kernel
theorem dX6_init_1 : decode cX6_init 1 = .ok (.invokespecial 3, 3) := by decide +kernel
theorem dX6_init_4 : decode cX6_init 4 = .ok (.aload_n 0, 1) := by decide +kernel
theorem dX6_init_5 : decode cX6_init 5 = .ok (.new 9, 3) := by decide +kernel
theorem dX6_init_8 : decode cX6_init 8 = .ok (.dup, 1) := by decide +kernel
theorem dX6_init_9 : decode cX6_init 9 = .ok (.invokespecial 11, 3) := by decide +kernel
theorem dX6_init_12 : decode cX6_init 12 = .ok (.putfield 12, 3) := by decide +kernel
theorem dX6_init_15 : decode cX6_init 15 = .ok (.aload_n 0, 1) := by decide +kernel
theorem dX6_init_16 : decode cX6_init 16 = .ok (.new 18, 3) := by decide +kernel
theorem dX6_init_19 : decode cX6_init 19 = .ok (.dup, 1) := by decide +kernel
theorem dX6_init_20 : decode cX6_init 20 = .ok (.invokespecial 20, 3) := by decide +kernel
theorem dX6_init_23 : decode cX6_init 23 = .ok (.putfield 21, 3) := by decide +kernel
theorem dX6_init_26 : decode cX6_init 26 = .ok (.aload_n 0, 1) := by decide +kernel
theorem dX6_init_27 : decode cX6_init 27 = .ok (.iconst 4, 1) := by decide +kernel
theorem dX6_init_28 : decode cX6_init 28 = .ok (.newarray .int, 2) := by decide +kernel
theorem dX6_init_30 : decode cX6_init 30 = .ok (.putfield 25, 3) := by decide +kernel
theorem dX6_init_33 : decode cX6_init 33 = .ok (.aload_n 0, 1) := by decide +kernel
theorem dX6_init_34 : decode cX6_init 34 = .ok (.invokevirtual 29, 3) := by decide +kernel
theorem dX6_init_37 : decode cX6_init 37 = .ok (.return_, 1) := by decide +kernel
set_option maxRecDepth 20000 in
theorem ggX6_read_X6_begin : GoodIn wsX6_read wsX6_begin := goodIn_r _ [10, 4, 3, 11, 2, 12, 13, 14, 15, 16, 17, 1, 18, 19, 20, 21, 22, 23, 24, 25, 26, 27, 28, 29, 30, 31, 32, 107, 108, 109, 110, 111, 112, 113, 114, 115, 116, 117, 118, 119, 120, 121, 122, 123, 124, 125, 126, 127, 128, 129, 130, 131, 132] (by decide +kernel) (by decide +kernel)
set_option maxRecDepth 20000 in
theorem gX6_read_X6_begin : GoodIn wsX6_read (wsV RX6 29 RX6 yX6_begin wsX6_begin) := goodIn_app (goodIn_of _ (by decide +kernel)) ggX6_read_X6_begin
set_option maxRecDepth 20000 in
theorem ggX6_read_X6_takeLetter : GoodIn wsX6_read wsX6_takeLetter := goodIn_r _ [36, 1, 37, 38, 39, 9, 40, 13, 12, 2, 15, 14, 41, 42, 43, 44, 45, 46, 47, 18, 48, 49, 50, 51, 52, 53, 54, 55, 56, 57, 58, 59, 60, 4, 61, 62, 63, 64, 65, 66, 67, 68, 69, 3, 70, 71, 72, 73, 74, 75, 76, 77, 78, 79, 80, 81, 82, 83, 84, 85, 16, 86, 87, 88, 89, 90, 91, 92, 93, 94, 17, 95, 96, 97, 98, 99, 100, 101, 102, 107, 108, 109, 110, 111, 112, 113, 114, 115, 116, 117, 118, 127, 128, 129, 130, 131, 132, 119, 120, 121, 122, 123, 124, 125, 126] (by decide +kernel) (by decide +kernel)
set_option maxRecDepth 20000 in
theorem gX6_read_X6_takeLetter : GoodIn wsX6_read (wsV RX6 36 RX6 yX6_takeLetter wsX6_takeLetter) := goodIn_app (goodIn_of _ (by decide +kernel)) ggX6_read_X6_takeLetter
set_option maxRecDepth 20000 in
theorem ggX6_read_X6_closeNumber : GoodIn wsX6_read wsX6_closeNumber := goodIn_r _ [51, 13, 14, 12, 15, 52, 53, 54, 55, 9, 56, 2, 57, 58, 59, 60, 4, 61, 44, 45, 46, 47, 1, 18, 107, 108, 109, 110, 111, 112, 113, 114, 115, 116, 117, 118, 127, 128, 129, 130, 131, 132] (by decide +kernel) (by decide +kernel)
set_option maxRecDepth 20000 in
theorem gX6_read_X6_closeNumber : GoodIn wsX6_read (wsV RX6 40 RX6 yX6_closeNumber wsX6_closeNumber) := goodIn_app (goodIn_of _ (by decide +kernel)) ggX6_read_X6_closeNumber
set_option maxRecDepth 20000 in
theorem ggX6_read_X6_fail : GoodIn wsX6_read wsX6_fail := goodIn_r _ [47, 1, 18, 107, 108, 109, 110, 111, 112, 113, 114, 115, 116, 117, 118] (by decide +kernel) (by decide +kernel)
set_option maxRecDepth 20000 in
theorem gX6_read_X6_fail : GoodIn wsX6_read (wsV RX6 46 RX6 yX6_fail wsX6_fail) := goodIn_app (goodIn_of _ (by decide +kernel)) ggX6_read_X6_fail
set_option maxRecDepth 20000 in
theorem ggX6_read_X7_everyTicket : GoodIn wsX6_read wsX7_everyTicket := goodIn_r _ [106, 25, 127, 128, 129, 130, 131, 132] (by decide +kernel) (by decide +kernel)
set_option maxRecDepth 20000 in
theorem gX6_read_X7_everyTicket : GoodIn wsX6_read (wsV RX6 49 RX7 yX7_everyTicket wsX7_everyTicket) := goodIn_app (goodIn_of _ (by decide +kernel)) ggX6_read_X7_everyTicket
theorem dX6_read_0 : decode cX6_read 0 = .ok (.aload_n 0, 1) := by decide +kernel
theorem dX6_read_1 : decode cX6_read 1 = .ok (.invokevirtual 29, 3) := by decide +kernel
theorem dX6_read_4 : decode cX6_read 4 = .ok (.iconst 0, 1) := by decide +kernel
theorem dX6_read_5 : decode cX6_read 5 = .ok (.istore_n 3, 1) := by decide +kernel
theorem dX6_read_6 : decode cX6_read 6 = .ok (.iload_n 3, 1) := by decide +kernel
theorem dX6_read_7 : decode cX6_read 7 = .ok (.iload_n 2, 1) := by decide +kernel
theorem dX6_read_8 : decode cX6_read 8 = .ok (.if_icmp .ge 30, 3) := by decide +kernel
theorem dX6_read_11 : decode cX6_read 11 = .ok (.iload_n 3, 1) := by decide +kernel
theorem dX6_read_12 : decode cX6_read 12 = .ok (.aload_n 1, 1) := by decide +kernel
theorem dX6_read_13 : decode cX6_read 13 = .ok (.arraylength, 1) := by decide +kernel
theorem dX6_read_14 : decode cX6_read 14 = .ok (.if_icmp .ge 24, 3) := by decide +kernel
theorem dX6_read_17 : decode cX6_read 17 = .ok (.aload_n 0, 1) := by decide +kernel
theorem dX6_read_18 : decode cX6_read 18 = .ok (.getfield 32, 3) := by decide +kernel
theorem dX6_read_21 : decode cX6_read 21 = .ok (.ifCond .ne 17, 3) := by decide +kernel
theorem dX6_read_24 : decode cX6_read 24 = .ok (.aload_n 0, 1) := by decide +kernel
theorem dX6_read_25 : decode cX6_read 25 = .ok (.aload_n 1, 1) := by decide +kernel
theorem dX6_read_26 : decode cX6_read 26 = .ok (.iload_n 3, 1) := by decide +kernel
theorem dX6_read_27 : decode cX6_read 27 = .ok (.iaload, 1) := by decide +kernel
theorem dX6_read_28 : decode cX6_read 28 = .ok (.iload_n 3, 1) := by decide +kernel
theorem dX6_read_29 : decode cX6_read 29 = .ok (.invokevirtual 36, 3) := by decide +kernel
theorem dX6_read_32 : decode cX6_read 32 = .ok (.iinc 3 1, 3) := by decide +kernel
theorem dX6_read_35 : decode cX6_read 35 = .ok (.goto (-29), 3) := by decide +kernel
theorem dX6_read_38 : decode cX6_read 38 = .ok (.aload_n 0, 1) := by decide +kernel
theorem dX6_read_39 : decode cX6_read 39 = .ok (.getfield 32, 3) := by decide +kernel
theorem dX6_read_42 : decode cX6_read 42 = .ok (.ifCond .ne 7, 3) := by decide +kernel
theorem dX6_read_45 : decode cX6_read 45 = .ok (.aload_n 0, 1) := by decide +kernel
theorem dX6_read_46 : decode cX6_read 46 = .ok (.invokevirtual 40, 3) := by decide +kernel
theorem dX6_read_49 : decode cX6_read 49 = .ok (.aload_n 0, 1) := by decide +kernel
theorem dX6_read_50 : decode cX6_read 50 = .ok (.getfield 32, 3) := by decide +kernel
theorem dX6_read_53 : decode cX6_read 53 = .ok (.ifCond .ne 16, 3) := by decide +kernel
theorem dX6_read_56 : decode cX6_read 56 = .ok (.aload_n 0, 1) := by decide +kernel
theorem dX6_read_57 : decode cX6_read 57 = .ok (.getfield 43, 3) := by decide +kernel
theorem dX6_read_60 : decode cX6_read 60 = .ok (.ifCond .eq 9, 3) := by decide +kernel
theorem dX6_read_63 : decode cX6_read 63 = .ok (.aload_n 0, 1) := by decide +kernel
theorem dX6_read_64 : decode cX6_read 64 = .ok (.iconst 1, 1) := by decide +kernel
theorem dX6_read_65 : decode cX6_read 65 = .ok (.iload_n 2, 1) := by decide +kernel
theorem dX6_read_66 : decode cX6_read 66 = .ok (.invokevirtual 46, 3) := by decide +kernel
theorem dX6_read_69 : decode cX6_read 69 = .ok (.aload_n 0, 1) := by decide +kernel
theorem dX6_read_70 : decode cX6_read 70 = .ok (.getfield 21, 3) := by decide +kernel
theorem dX6_read_73 : decode cX6_read 73 = .ok (.aload_n 0, 1) := by decide +kernel
theorem dX6_read_74 : decode cX6_read 74 = .ok (.getfield 12, 3) := by decide +kernel
theorem dX6_read_77 : decode cX6_read 77 = .ok (.invokevirtual 49, 3) := by decide +kernel
theorem dX6_read_80 : decode cX6_read 80 = .ok (.putfield 53, 3) := by decide +kernel
theorem dX6_read_83 : decode cX6_read 83 = .ok (.aload_n 0, 1) := by decide +kernel
theorem dX6_read_84 : decode cX6_read 84 = .ok (.getfield 32, 3) := by decide +kernel
theorem dX6_read_87 : decode cX6_read 87 = .ok (.ireturn, 1) := by decide +kernel
set_option maxRecDepth 20000 in
theorem ggX6_begin_X7_setUntold : GoodIn wsX6_begin wsX7_setUntold := goodIn_r _ [17, 18, 19, 20, 21, 22, 47, 48, 49, 50, 51, 52] (by decide +kernel) (by decide +kernel)
set_option maxRecDepth 20000 in
theorem gX6_begin_X7_setUntold : GoodIn wsX6_begin (wsV RX6 56 RX7 yX7_setUntold wsX7_setUntold) := goodIn_app (goodIn_of _ (by decide +kernel)) ggX6_begin_X7_setUntold
set_option maxRecDepth 20000 in
theorem ggX6_begin_J7_fill_53178 : GoodIn wsX6_begin wsJ7_fill_53178 := goodIn_r _ [26] (by decide +kernel) (by decide +kernel)
set_option maxRecDepth 20000 in
theorem gX6_begin_J7_fill_53178 : GoodIn wsX6_begin (va_wsS RX6 62 yJ7_fill_53178 wsJ7_fill_53178) := goodIn_app (goodIn_of _ (by decide +kernel)) ggX6_begin_J7_fill_53178
theorem dX6_begin_0 : decode cX6_begin 0 = .ok (.aload_n 0, 1) := by decide +kernel
theorem dX6_begin_1 : decode cX6_begin 1 = .ok (.getfield 12, 3) := by decide +kernel
theorem dX6_begin_4 : decode cX6_begin 4 = .ok (.invokevirtual 56, 3) := by decide +kernel
theorem dX6_begin_7 : decode cX6_begin 7 = .ok (.aload_n 0, 1) := by decide +kernel
theorem dX6_begin_8 : decode cX6_begin 8 = .ok (.getfield 21, 3) := by decide +kernel
theorem dX6_begin_11 : decode cX6_begin 11 = .ok (.getfield 59, 3) := by decide +kernel
theorem dX6_begin_14 : decode cX6_begin 14 = .ok (.iconst (-1), 1) := by decide +kernel
theorem dX6_begin_15 : decode cX6_begin 15 = .ok (.invokestatic 62, 3) := by decide +kernel
theorem dX6_begin_18 : decode cX6_begin 18 = .ok (.aload_n 0, 1) := by decide +kernel
theorem dX6_begin_19 : decode cX6_begin 19 = .ok (.iconst 0, 1) := by decide +kernel
theorem dX6_begin_20 : decode cX6_begin 20 = .ok (.putfield 43, 3) := by decide +kernel
theorem dX6_begin_23 : decode cX6_begin 23 = .ok (.aload_n 0, 1) := by decide +kernel
theorem dX6_begin_24 : decode cX6_begin 24 = .ok (.iconst 0, 1) := by decide +kernel
theorem dX6_begin_25 : decode cX6_begin 25 = .ok (.putfield 68, 3) := by decide +kernel
theorem dX6_begin_28 : decode cX6_begin 28 = .ok (.aload_n 0, 1) := by decide +kernel
theorem dX6_begin_29 : decode cX6_begin 29 = .ok (.iconst 0, 1) := by decide +kernel
theorem dX6_begin_30 : decode cX6_begin 30 = .ok (.putfield 71, 3) := by decide +kernel
theorem dX6_begin_33 : decode cX6_begin 33 = .ok (.aload_n 0, 1) := by decide +kernel
theorem dX6_begin_34 : decode cX6_begin 34 = .ok (.iconst 0, 1) := by decide +kernel
theorem dX6_begin_35 : decode cX6_begin 35 = .ok (.putfield 74, 3) := by decide +kernel
theorem dX6_begin_38 : decode cX6_begin 38 = .ok (.aload_n 0, 1) := by decide +kernel
theorem dX6_begin_39 : decode cX6_begin 39 = .ok (.iconst 0, 1) := by decide +kernel
theorem dX6_begin_40 : decode cX6_begin 40 = .ok (.putfield 77, 3) := by decide +kernel
theorem dX6_begin_43 : decode cX6_begin 43 = .ok (.aload_n 0, 1) := by decide +kernel
theorem dX6_begin_44 : decode cX6_begin 44 = .ok (.iconst 0, 1) := by decide +kernel
theorem dX6_begin_45 : decode cX6_begin 45 = .ok (.putfield 80, 3) := by decide +kernel
theorem dX6_begin_48 : decode cX6_begin 48 = .ok (.aload_n 0, 1) := by decide +kernel
theorem dX6_begin_49 : decode cX6_begin 49 = .ok (.iconst 0, 1) := by decide +kernel
theorem dX6_begin_50 : decode cX6_begin 50 = .ok (.putfield 84, 3) := by decide +kernel
theorem dX6_begin_53 : decode cX6_begin 53 = .ok (.aload_n 0, 1) := by decide +kernel
theorem dX6_begin_54 : decode cX6_begin 54 = .ok (.iconst 0, 1) := by decide +kernel
theorem dX6_begin_55 : decode cX6_begin 55 = .ok (.putfield 32, 3) := by decide +kernel
theorem dX6_begin_58 : decode cX6_begin 58 = .ok (.aload_n 0, 1) := by decide +kernel
theorem dX6_begin_59 : decode cX6_begin 59 = .ok (.iconst (-1), 1) := by decide +kernel
theorem dX6_begin_60 : decode cX6_begin 60 = .ok (.putfield 87, 3) := by decide +kernel
theorem dX6_begin_63 : decode cX6_begin 63 = .ok (.return_, 1) := by decide +kernel
theorem dX6_fail_0 : decode cX6_fail 0 = .ok (.aload_n 0, 1) := by decide +kernel
theorem dX6_fail_1 : decode cX6_fail 1 = .ok (.iload_n 1, 1) := by decide +kernel
theorem dX6_fail_2 : decode cX6_fail 2 = .ok (.putfield 32, 3) := by decide +kernel
theorem dX6_fail_5 : decode cX6_fail 5 = .ok (.aload_n 0, 1) := by decide +kernel
theorem dX6_fail_6 : decode cX6_fail 6 = .ok (.iload_n 2, 1) := by decide +kernel
theorem dX6_fail_7 : decode cX6_fail 7 = .ok (.putfield 87, 3) := by decide +kernel
theorem dX6_fail_10 : decode cX6_fail 10 = .ok (.return_, 1) := by decide +kernel
set_option maxRecDepth 20000 in
theorem ggX6_takeLetter_X6_takeFigure : GoodIn wsX6_takeLetter wsX6_takeFigure := goodIn_r _ [6, 7, 8, 9, 10, 11, 12, 13, 5, 14, 15, 16, 17, 18, 1, 19, 79, 80, 81, 82, 83, 84, 85, 86, 87, 88, 89, 90] (by decide +kernel) (by decide +kernel)
set_option maxRecDepth 20000 in
theorem gX6_takeLetter_X6_takeFigure : GoodIn wsX6_takeLetter (wsV RX6 90 RX6 yX6_takeFigure wsX6_takeFigure) := goodIn_app (goodIn_of _ (by decide +kernel)) ggX6_takeLetter_X6_takeFigure
set_option maxRecDepth 20000 in
theorem ggX6_takeLetter_X6_closeNumber : GoodIn wsX6_takeLetter wsX6_closeNumber := goodIn_r _ [23, 7, 11, 8, 10, 24, 25, 26, 27, 5, 28, 9, 29, 30, 31, 32, 33, 34, 15, 16, 17, 18, 1, 19, 79, 80, 81, 82, 83, 84, 85, 86, 87, 88, 89, 90, 91, 92, 93, 94, 95, 96] (by decide +kernel) (by decide +kernel)
set_option maxRecDepth 20000 in
theorem gX6_takeLetter_X6_closeNumber : GoodIn wsX6_takeLetter (wsV RX6 40 RX6 yX6_closeNumber wsX6_closeNumber) := goodIn_app (goodIn_of _ (by decide +kernel)) ggX6_takeLetter_X6_closeNumber
set_option maxRecDepth 20000 in
theorem ggX6_takeLetter_X6_closeClause : GoodIn wsX6_takeLetter wsX6_closeClause := goodIn_r _ [38, 9, 8, 12, 13, 5, 14, 15, 16, 17, 18, 1, 19, 39, 40, 41, 42, 33, 34, 43, 44, 24, 45, 46, 47, 48, 49, 50, 51, 52, 53, 54, 55, 56, 57, 58, 59, 60, 61, 62, 63, 64, 65, 66, 67, 68, 69, 70, 79, 80, 81, 82, 83, 84, 85, 86, 87, 88, 89, 90, 91, 92, 93, 94, 95, 96, 97, 98, 99, 100, 101, 102, 103, 104] (by decide +kernel) (by decide +kernel)
set_option maxRecDepth 20000 in
theorem gX6_takeLetter_X6_closeClause : GoodIn wsX6_takeLetter (wsV RX6 93 RX6 yX6_closeClause wsX6_closeClause) := goodIn_app (goodIn_of _ (by decide +kernel)) ggX6_takeLetter_X6_closeClause
set_option maxRecDepth 20000 in
theorem ggX6_takeLetter_X6_openClause : GoodIn wsX6_takeLetter wsX6_openClause := goodIn_r _ [74, 9, 8, 12, 13, 5, 14, 15, 16, 17, 18, 1, 19, 75, 76, 77, 78, 33, 34, 50, 60, 70, 79, 80, 81, 82, 83, 84, 85, 86, 87, 88, 89, 90, 91, 92, 93, 94, 95, 96] (by decide +kernel) (by decide +kernel)
set_option maxRecDepth 20000 in
theorem gX6_takeLetter_X6_openClause : GoodIn wsX6_takeLetter (wsV RX6 97 RX6 yX6_openClause wsX6_openClause) := goodIn_app (goodIn_of _ (by decide +kernel)) ggX6_takeLetter_X6_openClause
theorem dX6_takeLetter_0 : decode cX6_takeLetter 0 = .ok (.iload_n 1, 1) := by decide +kernel
theorem dX6_takeLetter_1 : decode cX6_takeLetter 1 = .ok (.bipush 48, 2) := by decide +kernel
theorem dX6_takeLetter_3 : decode cX6_takeLetter 3 = .ok (.if_icmp .lt 19, 3) := by decide +kernel
theorem dX6_takeLetter_6 : decode cX6_takeLetter 6 = .ok (.iload_n 1, 1) := by decide +kernel
theorem dX6_takeLetter_7 : decode cX6_takeLetter 7 = .ok (.bipush 57, 2) := by decide +kernel
theorem dX6_takeLetter_9 : decode cX6_takeLetter 9 = .ok (.if_icmp .gt 13, 3) := by decide +kernel
theorem dX6_takeLetter_12 : decode cX6_takeLetter 12 = .ok (.aload_n 0, 1) := by decide +kernel
theorem dX6_takeLetter_13 : decode cX6_takeLetter 13 = .ok (.iload_n 1, 1) := by decide +kernel
theorem dX6_takeLetter_14 : decode cX6_takeLetter 14 = .ok (.bipush 48, 2) := by decide +kernel
theorem dX6_takeLetter_16 : decode cX6_takeLetter 16 = .ok (.isub, 1) := by decide +kernel
theorem dX6_takeLetter_17 : decode cX6_takeLetter 17 = .ok (.iload_n 2, 1) := by decide +kernel
theorem dX6_takeLetter_18 : decode cX6_takeLetter 18 = .ok (.invokevirtual 90, 3) := by decide +kernel
theorem dX6_takeLetter_21 : decode cX6_takeLetter 21 = .ok (.return_, 1) := by decide +kernel
theorem dX6_takeLetter_22 : decode cX6_takeLetter 22 = .ok (.aload_n 0, 1) := by decide +kernel
theorem dX6_takeLetter_23 : decode cX6_takeLetter 23 = .ok (.invokevirtual 40, 3) := by decide +kernel
theorem dX6_takeLetter_26 : decode cX6_takeLetter 26 = .ok (.aload_n 0, 1) := by decide +kernel
theorem dX6_takeLetter_27 : decode cX6_takeLetter 27 = .ok (.getfield 32, 3) := by decide +kernel
theorem dX6_takeLetter_30 : decode cX6_takeLetter 30 = .ok (.ifCond .ne 9, 3) := by decide +kernel
theorem dX6_takeLetter_33 : decode cX6_takeLetter 33 = .ok (.iload_n 1, 1) := by decide +kernel
theorem dX6_takeLetter_34 : decode cX6_takeLetter 34 = .ok (.bipush 32, 2) := by decide +kernel
theorem dX6_takeLetter_36 : decode cX6_takeLetter 36 = .ok (.if_icmp .ne 4, 3) := by decide +kernel
theorem dX6_takeLetter_39 : decode cX6_takeLetter 39 = .ok (.return_, 1) := by decide +kernel
theorem dX6_takeLetter_40 : decode cX6_takeLetter 40 = .ok (.iload_n 1, 1) := by decide +kernel
theorem dX6_takeLetter_41 : decode cX6_takeLetter 41 = .ok (.bipush 59, 2) := by decide +kernel
theorem dX6_takeLetter_43 : decode cX6_takeLetter 43 = .ok (.if_icmp .ne 11, 3) := by decide +kernel
theorem dX6_takeLetter_46 : decode cX6_takeLetter 46 = .ok (.aload_n 0, 1) := by decide +kernel
theorem dX6_takeLetter_47 : decode cX6_takeLetter 47 = .ok (.iload_n 2, 1) := by decide +kernel
theorem dX6_takeLetter_48 : decode cX6_takeLetter 48 = .ok (.invokevirtual 93, 3) := by decide +kernel
theorem dX6_takeLetter_51 : decode cX6_takeLetter 51 = .ok (.goto 9, 3) := by decide +kernel
theorem dX6_takeLetter_54 : decode cX6_takeLetter 54 = .ok (.aload_n 0, 1) := by decide +kernel
theorem dX6_takeLetter_55 : decode cX6_takeLetter 55 = .ok (.iload_n 1, 1) := by decide +kernel
theorem dX6_takeLetter_56 : decode cX6_takeLetter 56 = .ok (.iload_n 2, 1) := by decide +kernel
theorem dX6_takeLetter_57 : decode cX6_takeLetter 57 = .ok (.invokevirtual 97, 3) := by decide +kernel
theorem dX6_takeLetter_60 : decode cX6_takeLetter 60 = .ok (.return_, 1) := by decide +kernel
set_option maxRecDepth 20000 in
theorem ggX6_takeFigure_X6_numbersOf : GoodIn wsX6_takeFigure wsX6_numbersOf := goodIn_r _ [9] (by decide +kernel) (by decide +kernel)
set_option maxRecDepth 20000 in
theorem gX6_takeFigure_X6_numbersOf : GoodIn wsX6_takeFigure (va_wsS RX6 100 yX6_numbersOf wsX6_numbersOf) := goodIn_app (goodIn_of _ (by decide +kernel)) ggX6_takeFigure_X6_numbersOf
set_option maxRecDepth 20000 in
theorem ggX6_takeFigure_X6_fail : GoodIn wsX6_takeFigure wsX6_fail := goodIn_r _ [13, 14, 15, 16, 17, 18, 19, 20, 21, 22, 23, 24, 25, 26, 27] (by decide +kernel) (by decide +kernel)
set_option maxRecDepth 20000 in
theorem gX6_takeFigure_X6_fail : GoodIn wsX6_takeFigure (wsV RX6 46 RX6 yX6_fail wsX6_fail) := goodIn_app (goodIn_of _ (by decide +kernel)) ggX6_takeFigure_X6_fail
theorem dX6_takeFigure_0 : decode cX6_takeFigure 0 = .ok (.aload_n 0, 1) := by decide +kernel
theorem dX6_takeFigure_1 : decode cX6_takeFigure 1 = .ok (.getfield 71, 3) := by decide +kernel
theorem dX6_takeFigure_4 : decode cX6_takeFigure 4 = .ok (.ifCond .ne 34, 3) := by decide +kernel
theorem dX6_takeFigure_7 : decode cX6_takeFigure 7 = .ok (.aload_n 0, 1) := by decide +kernel
theorem dX6_takeFigure_8 : decode cX6_takeFigure 8 = .ok (.getfield 68, 3) := by decide +kernel
theorem dX6_takeFigure_11 : decode cX6_takeFigure 11 = .ok (.aload_n 0, 1) := by decide +kernel
theorem dX6_takeFigure_12 : decode cX6_takeFigure 12 = .ok (.getfield 43, 3) := by decide +kernel
theorem dX6_takeFigure_15 : decode cX6_takeFigure 15 = .ok (.invokestatic 100, 3) := by decide +kernel
theorem dX6_takeFigure_18 : decode cX6_takeFigure 18 = .ok (.if_icmp .lt 10, 3) := by decide +kernel
theorem dX6_takeFigure_21 : decode cX6_takeFigure 21 = .ok (.aload_n 0, 1) := by decide +kernel
theorem dX6_takeFigure_22 : decode cX6_takeFigure 22 = .ok (.iconst 1, 1) := by decide +kernel
theorem dX6_takeFigure_23 : decode cX6_takeFigure 23 = .ok (.iload_n 2, 1) := by decide +kernel
theorem dX6_takeFigure_24 : decode cX6_takeFigure 24 = .ok (.invokevirtual 46, 3) := by decide +kernel
theorem dX6_takeFigure_27 : decode cX6_takeFigure 27 = .ok (.return_, 1) := by decide +kernel
theorem dX6_takeFigure_28 : decode cX6_takeFigure 28 = .ok (.aload_n 0, 1) := by decide +kernel
theorem dX6_takeFigure_29 : decode cX6_takeFigure 29 = .ok (.iload_n 2, 1) := by decide +kernel
theorem dX6_takeFigure_30 : decode cX6_takeFigure 30 = .ok (.putfield 77, 3) := by decide +kernel
theorem dX6_takeFigure_33 : decode cX6_takeFigure 33 = .ok (.aload_n 0, 1) := by decide +kernel
theorem dX6_takeFigure_34 : decode cX6_takeFigure 34 = .ok (.iconst 0, 1) := by decide +kernel
theorem dX6_takeFigure_35 : decode cX6_takeFigure 35 = .ok (.putfield 74, 3) := by decide +kernel
theorem dX6_takeFigure_38 : decode cX6_takeFigure 38 = .ok (.aload_n 0, 1) := by decide +kernel
theorem dX6_takeFigure_39 : decode cX6_takeFigure 39 = .ok (.dup, 1) := by decide +kernel
theorem dX6_takeFigure_40 : decode cX6_takeFigure 40 = .ok (.getfield 71, 3) := by decide +kernel
theorem dX6_takeFigure_43 : decode cX6_takeFigure 43 = .ok (.iconst 1, 1) := by decide +kernel
theorem dX6_takeFigure_44 : decode cX6_takeFigure 44 = .ok (.iadd, 1) := by decide +kernel
theorem dX6_takeFigure_45 : decode cX6_takeFigure 45 = .ok (.putfield 71, 3) := by decide +kernel
theorem dX6_takeFigure_48 : decode cX6_takeFigure 48 = .ok (.aload_n 0, 1) := by decide +kernel
theorem dX6_takeFigure_49 : decode cX6_takeFigure 49 = .ok (.getfield 71, 3) := by decide +kernel
theorem dX6_takeFigure_52 : decode cX6_takeFigure 52 = .ok (.iconst 3, 1) := by decide +kernel
theorem dX6_takeFigure_53 : decode cX6_takeFigure 53 = .ok (.if_icmp .gt 16, 3) := by decide +kernel
theorem dX6_takeFigure_56 : decode cX6_takeFigure 56 = .ok (.aload_n 0, 1) := by decide +kernel
theorem dX6_takeFigure_57 : decode cX6_takeFigure 57 = .ok (.aload_n 0, 1) := by decide +kernel
theorem dX6_takeFigure_58 : decode cX6_takeFigure 58 = .ok (.getfield 74, 3) := by decide +kernel
theorem dX6_takeFigure_61 : decode cX6_takeFigure 61 = .ok (.bipush 10, 2) := by decide +kernel
theorem dX6_takeFigure_63 : decode cX6_takeFigure 63 = .ok (.imul, 1) := by decide +kernel
theorem dX6_takeFigure_64 : decode cX6_takeFigure 64 = .ok (.iload_n 1, 1) := by decide +kernel
theorem dX6_takeFigure_65 : decode cX6_takeFigure 65 = .ok (.iadd, 1) := by decide +kernel
theorem dX6_takeFigure_66 : decode cX6_takeFigure 66 = .ok (.putfield 74, 3) := by decide +kernel
theorem dX6_takeFigure_69 : decode cX6_takeFigure 69 = .ok (.return_, 1) := by decide +kernel
set_option maxRecDepth 20000 in
theorem ggX6_closeNumber_X6_least : GoodIn wsX6_closeNumber wsX6_least := goodIn_r _ [10, 11, 3, 24, 25, 26, 27, 28, 29, 30, 31, 32, 33, 34, 35] (by decide +kernel) (by decide +kernel)
set_option maxRecDepth 20000 in
theorem gX6_closeNumber_X6_least : GoodIn wsX6_closeNumber (wsV RX6 104 RX6 yX6_least wsX6_least) := goodIn_app (goodIn_of _ (by decide +kernel)) ggX6_closeNumber_X6_least
set_option maxRecDepth 20000 in
theorem ggX6_closeNumber_X6_greatest : GoodIn wsX6_closeNumber wsX6_greatest := goodIn_r _ [15, 11, 3, 16, 17, 24, 25, 26, 27, 28, 29, 30, 31, 32, 33, 34, 35, 36, 37, 38, 39, 40, 41] (by decide +kernel) (by decide +kernel)
set_option maxRecDepth 20000 in
theorem gX6_closeNumber_X6_greatest : GoodIn wsX6_closeNumber (wsV RX6 107 RX6 yX6_greatest wsX6_greatest) := goodIn_app (goodIn_of _ (by decide +kernel)) ggX6_closeNumber_X6_greatest
set_option maxRecDepth 20000 in
theorem ggX6_closeNumber_X6_fail : GoodIn wsX6_closeNumber wsX6_fail := goodIn_r _ [21, 22, 23, 24, 25, 26, 27, 28, 29, 30, 31, 32, 33, 34, 35] (by decide +kernel) (by decide +kernel)
set_option maxRecDepth 20000 in
theorem gX6_closeNumber_X6_fail : GoodIn wsX6_closeNumber (wsV RX6 46 RX6 yX6_fail wsX6_fail) := goodIn_app (goodIn_of _ (by decide +kernel)) ggX6_closeNumber_X6_fail
theorem dX6_closeNumber_0 : decode cX6_closeNumber 0 = .ok (.aload_n 0, 1) := by decide +kernel
theorem dX6_closeNumber_1 : decode cX6_closeNumber 1 = .ok (.getfield 71, 3) := by decide +kernel
theorem dX6_closeNumber_4 : decode cX6_closeNumber 4 = .ok (.ifCond .ne 4, 3) := by decide +kernel
theorem dX6_closeNumber_7 : decode cX6_closeNumber 7 = .ok (.return_, 1) := by decide +kernel
theorem dX6_closeNumber_8 : decode cX6_closeNumber 8 = .ok (.aload_n 0, 1) := by decide +kernel
theorem dX6_closeNumber_9 : decode cX6_closeNumber 9 = .ok (.getfield 71, 3) := by decide +kernel
theorem dX6_closeNumber_12 : decode cX6_closeNumber 12 = .ok (.iconst 3, 1) := by decide +kernel
theorem dX6_closeNumber_13 : decode cX6_closeNumber 13 = .ok (.if_icmp .gt 29, 3) := by decide +kernel
theorem dX6_closeNumber_16 : decode cX6_closeNumber 16 = .ok (.aload_n 0, 1) := by decide +kernel
theorem dX6_closeNumber_17 : decode cX6_closeNumber 17 = .ok (.getfield 74, 3) := by decide +kernel
theorem dX6_closeNumber_20 : decode cX6_closeNumber 20 = .ok (.aload_n 0, 1) := by decide +kernel
theorem dX6_closeNumber_21 : decode cX6_closeNumber 21 = .ok (.invokevirtual 104, 3) := by decide +kernel
theorem dX6_closeNumber_24 : decode cX6_closeNumber 24 = .ok (.if_icmp .lt 18, 3) := by decide +kernel
theorem dX6_closeNumber_27 : decode cX6_closeNumber 27 = .ok (.aload_n 0, 1) := by decide +kernel
theorem dX6_closeNumber_28 : decode cX6_closeNumber 28 = .ok (.getfield 74, 3) := by decide +kernel
theorem dX6_closeNumber_31 : decode cX6_closeNumber 31 = .ok (.aload_n 0, 1) := by decide +kernel
theorem dX6_closeNumber_32 : decode cX6_closeNumber 32 = .ok (.invokevirtual 107, 3) := by decide +kernel
theorem dX6_closeNumber_35 : decode cX6_closeNumber 35 = .ok (.if_icmp .gt 7, 3) := by decide +kernel
theorem dX6_closeNumber_38 : decode cX6_closeNumber 38 = .ok (.iconst 1, 1) := by decide +kernel
theorem dX6_closeNumber_39 : decode cX6_closeNumber 39 = .ok (.goto 4, 3) := by decide +kernel
theorem dX6_closeNumber_42 : decode cX6_closeNumber 42 = .ok (.iconst 0, 1) := by decide +kernel
theorem dX6_closeNumber_43 : decode cX6_closeNumber 43 = .ok (.istore_n 1, 1) := by decide +kernel
theorem dX6_closeNumber_44 : decode cX6_closeNumber 44 = .ok (.aload_n 0, 1) := by decide +kernel
theorem dX6_closeNumber_45 : decode cX6_closeNumber 45 = .ok (.iconst 0, 1) := by decide +kernel
theorem dX6_closeNumber_46 : decode cX6_closeNumber 46 = .ok (.putfield 71, 3) := by decide +kernel
theorem dX6_closeNumber_49 : decode cX6_closeNumber 49 = .ok (.iload_n 1, 1) := by decide +kernel
theorem dX6_closeNumber_50 : decode cX6_closeNumber 50 = .ok (.ifCond .eq 11, 3) := by decide +kernel
theorem dX6_closeNumber_53 : decode cX6_closeNumber 53 = .ok (.aload_n 0, 1) := by decide +kernel
theorem dX6_closeNumber_54 : decode cX6_closeNumber 54 = .ok (.getfield 68, 3) := by decide +kernel
theorem dX6_closeNumber_57 : decode cX6_closeNumber 57 = .ok (.iconst 4, 1) := by decide +kernel
theorem dX6_closeNumber_58 : decode cX6_closeNumber 58 = .ok (.if_icmp .lt 13, 3) := by decide +kernel
theorem dX6_closeNumber_61 : decode cX6_closeNumber 61 = .ok (.aload_n 0, 1) := by decide +kernel
theorem dX6_closeNumber_62 : decode cX6_closeNumber 62 = .ok (.iconst 2, 1) := by decide +kernel
theorem dX6_closeNumber_63 : decode cX6_closeNumber 63 = .ok (.aload_n 0, 1) := by decide +kernel
theorem dX6_closeNumber_64 : decode cX6_closeNumber 64 = .ok (.getfield 77, 3) := by decide +kernel
theorem dX6_closeNumber_67 : decode cX6_closeNumber 67 = .ok (.invokevirtual 46, 3) := by decide +kernel
theorem dX6_closeNumber_70 : decode cX6_closeNumber 70 = .ok (.return_, 1) := by decide +kernel
theorem dX6_closeNumber_71 : decode cX6_closeNumber 71 = .ok (.aload_n 0, 1) := by decide +kernel
theorem dX6_closeNumber_72 : decode cX6_closeNumber 72 = .ok (.getfield 25, 3) := by decide +kernel
theorem dX6_closeNumber_75 : decode cX6_closeNumber 75 = .ok (.aload_n 0, 1) := by decide +kernel
theorem dX6_closeNumber_76 : decode cX6_closeNumber 76 = .ok (.getfield 68, 3) := by decide +kernel
theorem dX6_closeNumber_79 : decode cX6_closeNumber 79 = .ok (.aload_n 0, 1) := by decide +kernel
theorem dX6_closeNumber_80 : decode cX6_closeNumber 80 = .ok (.getfield 74, 3) := by decide +kernel
theorem dX6_closeNumber_83 : decode cX6_closeNumber 83 = .ok (.iastore, 1) := by decide +kernel
theorem dX6_closeNumber_84 : decode cX6_closeNumber 84 = .ok (.aload_n 0, 1) := by decide +kernel
theorem dX6_closeNumber_85 : decode cX6_closeNumber 85 = .ok (.dup, 1) := by decide +kernel
theorem dX6_closeNumber_86 : decode cX6_closeNumber 86 = .ok (.getfield 68, 3) := by decide +kernel
theorem dX6_closeNumber_89 : decode cX6_closeNumber 89 = .ok (.iconst 1, 1) := by decide +kernel
theorem dX6_closeNumber_90 : decode cX6_closeNumber 90 = .ok (.iadd, 1) := by decide +kernel
theorem dX6_closeNumber_91 : decode cX6_closeNumber 91 = .ok (.putfield 68, 3) := by decide +kernel
theorem dX6_closeNumber_94 : decode cX6_closeNumber 94 = .ok (.return_, 1) := by decide +kernel
theorem dX6_least_0 : decode cX6_least 0 = .ok (.aload_n 0, 1) := by decide +kernel
theorem dX6_least_1 : decode cX6_least 1 = .ok (.getfield 43, 3) := by decide +kernel
theorem dX6_least_4 : decode cX6_least 4 = .ok (.bipush 116, 2) := by decide +kernel
theorem dX6_least_6 : decode cX6_least 6 = .ok (.if_icmp .ne 11, 3) := by decide +kernel
theorem dX6_least_9 : decode cX6_least 9 = .ok (.aload_n 0, 1) := by decide +kernel
theorem dX6_least_10 : decode cX6_least 10 = .ok (.getfield 68, 3) := by decide +kernel
theorem dX6_least_13 : decode cX6_least 13 = .ok (.iconst 1, 1) := by decide +kernel
theorem dX6_least_14 : decode cX6_least 14 = .ok (.if_icmp .eq 19, 3) := by decide +kernel
theorem dX6_least_17 : decode cX6_least 17 = .ok (.aload_n 0, 1) := by decide +kernel
theorem dX6_least_18 : decode cX6_least 18 = .ok (.getfield 43, 3) := by decide +kernel
theorem dX6_least_21 : decode cX6_least 21 = .ok (.bipush 121, 2) := by decide +kernel
theorem dX6_least_23 : decode cX6_least 23 = .ok (.if_icmp .ne 14, 3) := by decide +kernel
theorem dX6_least_26 : decode cX6_least 26 = .ok (.aload_n 0, 1) := by decide +kernel
theorem dX6_least_27 : decode cX6_least 27 = .ok (.getfield 68, 3) := by decide +kernel
theorem dX6_least_30 : decode cX6_least 30 = .ok (.ifCond .ne 7, 3) := by decide +kernel
theorem dX6_least_33 : decode cX6_least 33 = .ok (.iconst 1, 1) := by decide +kernel
theorem dX6_least_34 : decode cX6_least 34 = .ok (.goto 4, 3) := by decide +kernel
theorem dX6_least_37 : decode cX6_least 37 = .ok (.iconst 0, 1) := by decide +kernel
theorem dX6_least_38 : decode cX6_least 38 = .ok (.istore_n 1, 1) := by decide +kernel
theorem dX6_least_39 : decode cX6_least 39 = .ok (.iload_n 1, 1) := by decide +kernel
theorem dX6_least_40 : decode cX6_least 40 = .ok (.ifCond .eq 7, 3) := by decide +kernel
theorem dX6_least_43 : decode cX6_least 43 = .ok (.iconst 1, 1) := by decide +kernel
theorem dX6_least_44 : decode cX6_least 44 = .ok (.goto 4, 3) := by decide +kernel
theorem dX6_least_47 : decode cX6_least 47 = .ok (.iconst 0, 1) := by decide +kernel
theorem dX6_least_48 : decode cX6_least 48 = .ok (.ireturn, 1) := by decide +kernel
theorem dX6_greatest_0 : decode cX6_greatest 0 = .ok (.aload_n 0, 1) := by decide +kernel
theorem dX6_greatest_1 : decode cX6_greatest 1 = .ok (.getfield 43, 3) := by decide +kernel
theorem dX6_greatest_4 : decode cX6_greatest 4 = .ok (.bipush 112, 2) := by decide +kernel
theorem dX6_greatest_6 : decode cX6_greatest 6 = .ok (.if_icmp .ne 19, 3) := by decide +kernel
theorem dX6_greatest_9 : decode cX6_greatest 9 = .ok (.aload_n 0, 1) := by decide +kernel
theorem dX6_greatest_10 : decode cX6_greatest 10 = .ok (.getfield 68, 3) := by decide +kernel
theorem dX6_greatest_13 : decode cX6_greatest 13 = .ok (.ifCond .ne 8, 3) := by decide +kernel
theorem dX6_greatest_16 : decode cX6_greatest 16 = .ok (.bipush 99, 2) := by decide +kernel
theorem dX6_greatest_18 : decode cX6_greatest 18 = .ok (.goto 6, 3) := by decide +kernel
theorem dX6_greatest_21 : decode cX6_greatest 21 = .ok (.sipush 999, 3) := by decide +kernel
theorem dX6_greatest_24 : decode cX6_greatest 24 = .ok (.ireturn, 1) := by decide +kernel
theorem dX6_greatest_25 : decode cX6_greatest 25 = .ok (.aload_n 0, 1) := by decide +kernel
theorem dX6_greatest_26 : decode cX6_greatest 26 = .ok (.getfield 43, 3) := by decide +kernel
theorem dX6_greatest_29 : decode cX6_greatest 29 = .ok (.bipush 116, 2) := by decide +kernel
theorem dX6_greatest_31 : decode cX6_greatest 31 = .ok (.if_icmp .ne 20, 3) := by decide +kernel
theorem dX6_greatest_34 : decode cX6_greatest 34 = .ok (.aload_n 0, 1) := by decide +kernel
theorem dX6_greatest_35 : decode cX6_greatest 35 = .ok (.getfield 68, 3) := by decide +kernel
theorem dX6_greatest_38 : decode cX6_greatest 38 = .ok (.ifCond .ne 13, 3) := by decide +kernel
theorem dX6_greatest_41 : decode cX6_greatest 41 = .ok (.aload_n 0, 1) := by decide +kernel
theorem dX6_greatest_42 : decode cX6_greatest 42 = .ok (.getfield 12, 3) := by decide +kernel
theorem dX6_greatest_45 : decode cX6_greatest 45 = .ok (.getfield 110, 3) := by decide +kernel
theorem dX6_greatest_48 : decode cX6_greatest 48 = .ok (.iconst 1, 1) := by decide +kernel
theorem dX6_greatest_49 : decode cX6_greatest 49 = .ok (.isub, 1) := by decide +kernel
theorem dX6_greatest_50 : decode cX6_greatest 50 = .ok (.ireturn, 1) := by decide +kernel
theorem dX6_greatest_51 : decode cX6_greatest 51 = .ok (.aload_n 0, 1) := by decide +kernel
theorem dX6_greatest_52 : decode cX6_greatest 52 = .ok (.getfield 43, 3) := by decide +kernel
theorem dX6_greatest_55 : decode cX6_greatest 55 = .ok (.bipush 116, 2) := by decide +kernel
theorem dX6_greatest_57 : decode cX6_greatest 57 = .ok (.if_icmp .ne 14, 3) := by decide +kernel
theorem dX6_greatest_60 : decode cX6_greatest 60 = .ok (.aload_n 0, 1) := by decide +kernel
theorem dX6_greatest_61 : decode cX6_greatest 61 = .ok (.getfield 68, 3) := by decide +kernel
theorem dX6_greatest_64 : decode cX6_greatest 64 = .ok (.iconst 1, 1) := by decide +kernel
theorem dX6_greatest_65 : decode cX6_greatest 65 = .ok (.if_icmp .ne 6, 3) := by decide +kernel
theorem dX6_greatest_68 : decode cX6_greatest 68 = .ok (.bipush 9, 2) := by decide +kernel
theorem dX6_greatest_70 : decode cX6_greatest 70 = .ok (.ireturn, 1) := by decide +kernel
theorem dX6_greatest_71 : decode cX6_greatest 71 = .ok (.aload_n 0, 1) := by decide +kernel
theorem dX6_greatest_72 : decode cX6_greatest 72 = .ok (.getfield 43, 3) := by decide +kernel
theorem dX6_greatest_75 : decode cX6_greatest 75 = .ok (.bipush 121, 2) := by decide +kernel
theorem dX6_greatest_77 : decode cX6_greatest 77 = .ok (.if_icmp .ne 17, 3) := by decide +kernel
theorem dX6_greatest_80 : decode cX6_greatest 80 = .ok (.aload_n 0, 1) := by decide +kernel
theorem dX6_greatest_81 : decode cX6_greatest 81 = .ok (.getfield 68, 3) := by decide +kernel
theorem dX6_greatest_84 : decode cX6_greatest 84 = .ok (.ifCond .ne 8, 3) := by decide +kernel
theorem dX6_greatest_87 : decode cX6_greatest 87 = .ok (.bipush 8, 2) := by decide +kernel
theorem dX6_greatest_89 : decode cX6_greatest 89 = .ok (.goto 4, 3) := by decide +kernel
theorem dX6_greatest_92 : decode cX6_greatest 92 = .ok (.iconst 1, 1) := by decide +kernel
theorem dX6_greatest_93 : decode cX6_greatest 93 = .ok (.ireturn, 1) := by decide +kernel
theorem dX6_greatest_94 : decode cX6_greatest 94 = .ok (.bipush 99, 2) := by decide +kernel
theorem dX6_greatest_96 : decode cX6_greatest 96 = .ok (.ireturn, 1) := by decide +kernel
theorem dX6_numbersOf_0 : decode cX6_numbersOf 0 = .ok (.iload_n 0, 1) := by decide +kernel
theorem dX6_numbersOf_1 : decode cX6_numbersOf 1 = .ok (.tableswitch 63 112 121 #[55, 63, 61, 63, 57, 63, 63, 63, 63, 59], 55) := by decide +kernel
theorem dX6_numbersOf_56 : decode cX6_numbersOf 56 = .ok (.iconst 2, 1) := by decide +kernel
theorem dX6_numbersOf_57 : decode cX6_numbersOf 57 = .ok (.ireturn, 1) := by decide +kernel
theorem dX6_numbersOf_58 : decode cX6_numbersOf 58 = .ok (.iconst 3, 1) := by decide +kernel
theorem dX6_numbersOf_59 : decode cX6_numbersOf 59 = .ok (.ireturn, 1) := by decide +kernel
theorem dX6_numbersOf_60 : decode cX6_numbersOf 60 = .ok (.iconst 2, 1) := by decide +kernel
theorem dX6_numbersOf_61 : decode cX6_numbersOf 61 = .ok (.ireturn, 1) := by decide +kernel
theorem dX6_numbersOf_62 : decode cX6_numbersOf 62 = .ok (.iconst 4, 1) := by decide +kernel
theorem dX6_numbersOf_63 : decode cX6_numbersOf 63 = .ok (.ireturn, 1) := by decide +kernel
theorem dX6_numbersOf_64 : decode cX6_numbersOf 64 = .ok (.iconst 0, 1) := by decide +kernel
theorem dX6_numbersOf_65 : decode cX6_numbersOf 65 = .ok (.ireturn, 1) := by decide +kernel
set_option maxRecDepth 20000 in
theorem ggX6_openClause_X6_numbersOf : GoodIn wsX6_openClause wsX6_numbersOf := goodIn_r _ [6] (by decide +kernel) (by decide +kernel)
set_option maxRecDepth 20000 in
theorem gX6_openClause_X6_numbersOf : GoodIn wsX6_openClause (va_wsS RX6 100 yX6_numbersOf wsX6_numbersOf) := goodIn_app (goodIn_of _ (by decide +kernel)) ggX6_openClause_X6_numbersOf
set_option maxRecDepth 20000 in
theorem ggX6_openClause_X6_fail : GoodIn wsX6_openClause wsX6_fail := goodIn_r _ [10, 11, 12, 22, 23, 24, 25, 26, 27, 28, 29, 30, 31, 32, 33] (by decide +kernel) (by decide +kernel)
set_option maxRecDepth 20000 in
theorem gX6_openClause_X6_fail : GoodIn wsX6_openClause (wsV RX6 46 RX6 yX6_fail wsX6_fail) := goodIn_app (goodIn_of _ (by decide +kernel)) ggX6_openClause_X6_fail
set_option maxRecDepth 20000 in
theorem ggX6_openClause_X6_isOneTooMany : GoodIn wsX6_openClause wsX6_isOneTooMany := goodIn_r _ [16, 17, 18, 19, 20, 21, 22, 23, 24, 25, 26, 27, 28, 29, 30, 31, 32, 33, 34, 35, 36, 37, 38, 39] (by decide +kernel) (by decide +kernel)
set_option maxRecDepth 20000 in
theorem gX6_openClause_X6_isOneTooMany : GoodIn wsX6_openClause (wsV RX6 113 RX6 yX6_isOneTooMany wsX6_isOneTooMany) := goodIn_app (goodIn_of _ (by decide +kernel)) ggX6_openClause_X6_isOneTooMany
theorem dX6_openClause_0 : decode cX6_openClause 0 = .ok (.aload_n 0, 1) := by decide +kernel
theorem dX6_openClause_1 : decode cX6_openClause 1 = .ok (.getfield 43, 3) := by decide +kernel
theorem dX6_openClause_4 : decode cX6_openClause 4 = .ok (.ifCond .ne 10, 3) := by decide +kernel
theorem dX6_openClause_7 : decode cX6_openClause 7 = .ok (.iload_n 1, 1) := by decide +kernel
theorem dX6_openClause_8 : decode cX6_openClause 8 = .ok (.invokestatic 100, 3) := by decide +kernel
theorem dX6_openClause_11 : decode cX6_openClause 11 = .ok (.ifCond .ne 12, 3) := by decide +kernel
theorem dX6_openClause_14 : decode cX6_openClause 14 = .ok (.aload_n 0, 1) := by decide +kernel
theorem dX6_openClause_15 : decode cX6_openClause 15 = .ok (.iconst 1, 1) := by decide +kernel
theorem dX6_openClause_16 : decode cX6_openClause 16 = .ok (.iload_n 2, 1) := by decide +kernel
theorem dX6_openClause_17 : decode cX6_openClause 17 = .ok (.invokevirtual 46, 3) := by decide +kernel
theorem dX6_openClause_20 : decode cX6_openClause 20 = .ok (.goto 30, 3) := by decide +kernel
theorem dX6_openClause_23 : decode cX6_openClause 23 = .ok (.aload_n 0, 1) := by decide +kernel
theorem dX6_openClause_24 : decode cX6_openClause 24 = .ok (.iload_n 1, 1) := by decide +kernel
theorem dX6_openClause_25 : decode cX6_openClause 25 = .ok (.invokevirtual 113, 3) := by decide +kernel
theorem dX6_openClause_28 : decode cX6_openClause 28 = .ok (.ifCond .eq 12, 3) := by decide +kernel
theorem dX6_openClause_31 : decode cX6_openClause 31 = .ok (.aload_n 0, 1) := by decide +kernel
theorem dX6_openClause_32 : decode cX6_openClause 32 = .ok (.iconst 3, 1) := by decide +kernel
theorem dX6_openClause_33 : decode cX6_openClause 33 = .ok (.iload_n 2, 1) := by decide +kernel
theorem dX6_openClause_34 : decode cX6_openClause 34 = .ok (.invokevirtual 46, 3) := by decide +kernel
theorem dX6_openClause_37 : decode cX6_openClause 37 = .ok (.goto 13, 3) := by decide +kernel
theorem dX6_openClause_40 : decode cX6_openClause 40 = .ok (.aload_n 0, 1) := by decide +kernel
theorem dX6_openClause_41 : decode cX6_openClause 41 = .ok (.iload_n 1, 1) := by decide +kernel
theorem dX6_openClause_42 : decode cX6_openClause 42 = .ok (.putfield 43, 3) := by decide +kernel
theorem dX6_openClause_45 : decode cX6_openClause 45 = .ok (.aload_n 0, 1) := by decide +kernel
theorem dX6_openClause_46 : decode cX6_openClause 46 = .ok (.iconst 0, 1) := by decide +kernel
theorem dX6_openClause_47 : decode cX6_openClause 47 = .ok (.putfield 68, 3) := by decide +kernel
theorem dX6_openClause_50 : decode cX6_openClause 50 = .ok (.return_, 1) := by decide +kernel
theorem dX6_isOneTooMany_0 : decode cX6_isOneTooMany 0 = .ok (.iload_n 1, 1) := by decide +kernel
theorem dX6_isOneTooMany_1 : decode cX6_isOneTooMany 1 = .ok (.lookupswitch 76 #[(112, 35), (116, 53), (121, 71)], 35) := by decide +kernel
theorem dX6_isOneTooMany_36 : decode cX6_isOneTooMany 36 = .ok (.aload_n 0, 1) := by decide +kernel
theorem dX6_isOneTooMany_37 : decode cX6_isOneTooMany 37 = .ok (.getfield 12, 3) := by decide +kernel
theorem dX6_isOneTooMany_40 : decode cX6_isOneTooMany 40 = .ok (.getfield 110, 3) := by decide +kernel
theorem dX6_isOneTooMany_43 : decode cX6_isOneTooMany 43 = .ok (.bipush 6, 2) := by decide +kernel
theorem dX6_isOneTooMany_45 : decode cX6_isOneTooMany 45 = .ok (.if_icmp .lt 7, 3) := by decide +kernel
theorem dX6_isOneTooMany_48 : decode cX6_isOneTooMany 48 = .ok (.iconst 1, 1) := by decide +kernel
theorem dX6_isOneTooMany_49 : decode cX6_isOneTooMany 49 = .ok (.goto 4, 3) := by decide +kernel
theorem dX6_isOneTooMany_52 : decode cX6_isOneTooMany 52 = .ok (.iconst 0, 1) := by decide +kernel
theorem dX6_isOneTooMany_53 : decode cX6_isOneTooMany 53 = .ok (.ireturn, 1) := by decide +kernel
theorem dX6_isOneTooMany_54 : decode cX6_isOneTooMany 54 = .ok (.aload_n 0, 1) := by decide +kernel
theorem dX6_isOneTooMany_55 : decode cX6_isOneTooMany 55 = .ok (.getfield 12, 3) := by decide +kernel
theorem dX6_isOneTooMany_58 : decode cX6_isOneTooMany 58 = .ok (.getfield 117, 3) := by decide +kernel
theorem dX6_isOneTooMany_61 : decode cX6_isOneTooMany 61 = .ok (.bipush 8, 2) := by decide +kernel
theorem dX6_isOneTooMany_63 : decode cX6_isOneTooMany 63 = .ok (.if_icmp .lt 7, 3) := by decide +kernel
theorem dX6_isOneTooMany_66 : decode cX6_isOneTooMany 66 = .ok (.iconst 1, 1) := by decide +kernel
theorem dX6_isOneTooMany_67 : decode cX6_isOneTooMany 67 = .ok (.goto 4, 3) := by decide +kernel
theorem dX6_isOneTooMany_70 : decode cX6_isOneTooMany 70 = .ok (.iconst 0, 1) := by decide +kernel
theorem dX6_isOneTooMany_71 : decode cX6_isOneTooMany 71 = .ok (.ireturn, 1) := by decide +kernel
theorem dX6_isOneTooMany_72 : decode cX6_isOneTooMany 72 = .ok (.aload_n 0, 1) := by decide +kernel
theorem dX6_isOneTooMany_73 : decode cX6_isOneTooMany 73 = .ok (.getfield 80, 3) := by decide +kernel
theorem dX6_isOneTooMany_76 : decode cX6_isOneTooMany 76 = .ok (.ireturn, 1) := by decide +kernel
theorem dX6_isOneTooMany_77 : decode cX6_isOneTooMany 77 = .ok (.aload_n 0, 1) := by decide +kernel
theorem dX6_isOneTooMany_78 : decode cX6_isOneTooMany 78 = .ok (.getfield 84, 3) := by decide +kernel
theorem dX6_isOneTooMany_81 : decode cX6_isOneTooMany 81 = .ok (.ireturn, 1) := by decide +kernel
set_option maxRecDepth 20000 in
theorem ggX6_closeClause_X6_numbersOf : GoodIn wsX6_closeClause wsX6_numbersOf := goodIn_r _ [6] (by decide +kernel) (by decide +kernel)
set_option maxRecDepth 20000 in
theorem gX6_closeClause_X6_numbersOf : GoodIn wsX6_closeClause (va_wsS RX6 100 yX6_numbersOf wsX6_numbersOf) := goodIn_app (goodIn_of _ (by decide +kernel)) ggX6_closeClause_X6_numbersOf
set_option maxRecDepth 20000 in
theorem ggX6_closeClause_X6_fail : GoodIn wsX6_closeClause wsX6_fail := goodIn_r _ [10, 11, 12, 48, 49, 50, 51, 52, 53, 54, 55, 56, 57, 58, 59] (by decide +kernel) (by decide +kernel)
set_option maxRecDepth 20000 in
theorem gX6_closeClause_X6_fail : GoodIn wsX6_closeClause (wsV RX6 46 RX6 yX6_fail wsX6_fail) := goodIn_app (goodIn_of _ (by decide +kernel)) ggX6_closeClause_X6_fail
set_option maxRecDepth 20000 in
theorem ggX6_closeClause_X6_addPerson : GoodIn wsX6_closeClause wsX6_addPerson := goodIn_r _ [16, 17, 18, 19, 20, 21, 22, 48, 49, 50, 51, 52, 53, 54, 55, 56, 57, 58, 59, 60, 61, 62, 63, 64, 65, 66, 67, 68, 69, 70, 71, 72, 73] (by decide +kernel) (by decide +kernel)
set_option maxRecDepth 20000 in
theorem gX6_closeClause_X6_addPerson : GoodIn wsX6_closeClause (wsV RX6 120 RX6 yX6_addPerson wsX6_addPerson) := goodIn_app (goodIn_of _ (by decide +kernel)) ggX6_closeClause_X6_addPerson
set_option maxRecDepth 20000 in
theorem ggX6_closeClause_X6_addTicket : GoodIn wsX6_closeClause wsX6_addTicket := goodIn_r _ [26, 17, 27, 19, 28, 21, 29, 30, 48, 49, 50, 51, 52, 53, 54, 55, 56, 57, 58, 59, 60, 61, 62, 63, 64, 65, 66, 67, 68, 69, 70, 71, 72, 73] (by decide +kernel) (by decide +kernel)
set_option maxRecDepth 20000 in
theorem gX6_closeClause_X6_addTicket : GoodIn wsX6_closeClause (wsV RX6 123 RX6 yX6_addTicket wsX6_addTicket) := goodIn_app (goodIn_of _ (by decide +kernel)) ggX6_closeClause_X6_addTicket
set_option maxRecDepth 20000 in
theorem ggX6_closeClause_X6_setYear : GoodIn wsX6_closeClause wsX6_setYear := goodIn_r _ [34, 17, 21, 35, 36, 37, 48, 49, 50, 51, 52, 53, 54, 55, 56, 57, 58, 59, 60, 61, 62, 63, 64, 65] (by decide +kernel) (by decide +kernel)
set_option maxRecDepth 20000 in
theorem gX6_closeClause_X6_setYear : GoodIn wsX6_closeClause (wsV RX6 126 RX6 yX6_setYear wsX6_setYear) := goodIn_app (goodIn_of _ (by decide +kernel)) ggX6_closeClause_X6_setYear
set_option maxRecDepth 20000 in
theorem ggX6_closeClause_X6_setRights : GoodIn wsX6_closeClause wsX6_setRights := goodIn_r _ [41, 21, 17, 42, 43, 44, 45, 46, 47, 48, 49, 50, 51, 52, 53, 54, 55, 56, 57, 58, 59, 60, 61, 62, 63, 64, 65] (by decide +kernel) (by decide +kernel)
set_option maxRecDepth 20000 in
theorem gX6_closeClause_X6_setRights : GoodIn wsX6_closeClause (wsV RX6 129 RX6 yX6_setRights wsX6_setRights) := goodIn_app (goodIn_of _ (by decide +kernel)) ggX6_closeClause_X6_setRights
theorem dX6_closeClause_0 : decode cX6_closeClause 0 = .ok (.aload_n 0, 1) := by decide +kernel
theorem dX6_closeClause_1 : decode cX6_closeClause 1 = .ok (.getfield 43, 3) := by decide +kernel
theorem dX6_closeClause_4 : decode cX6_closeClause 4 = .ok (.ifCond .eq 17, 3) := by decide +kernel
theorem dX6_closeClause_7 : decode cX6_closeClause 7 = .ok (.aload_n 0, 1) := by decide +kernel
theorem dX6_closeClause_8 : decode cX6_closeClause 8 = .ok (.getfield 68, 3) := by decide +kernel
theorem dX6_closeClause_11 : decode cX6_closeClause 11 = .ok (.aload_n 0, 1) := by decide +kernel
theorem dX6_closeClause_12 : decode cX6_closeClause 12 = .ok (.getfield 43, 3) := by decide +kernel
theorem dX6_closeClause_15 : decode cX6_closeClause 15 = .ok (.invokestatic 100, 3) := by decide +kernel
theorem dX6_closeClause_18 : decode cX6_closeClause 18 = .ok (.if_icmp .ge 10, 3) := by decide +kernel
theorem dX6_closeClause_21 : decode cX6_closeClause 21 = .ok (.aload_n 0, 1) := by decide +kernel
theorem dX6_closeClause_22 : decode cX6_closeClause 22 = .ok (.iconst 1, 1) := by decide +kernel
theorem dX6_closeClause_23 : decode cX6_closeClause 23 = .ok (.iload_n 1, 1) := by decide +kernel
theorem dX6_closeClause_24 : decode cX6_closeClause 24 = .ok (.invokevirtual 46, 3) := by decide +kernel
theorem dX6_closeClause_27 : decode cX6_closeClause 27 = .ok (.return_, 1) := by decide +kernel
theorem dX6_closeClause_28 : decode cX6_closeClause 28 = .ok (.aload_n 0, 1) := by decide +kernel
theorem dX6_closeClause_29 : decode cX6_closeClause 29 = .ok (.getfield 43, 3) := by decide +kernel
theorem dX6_closeClause_32 : decode cX6_closeClause 32 = .ok (.bipush 112, 2) := by decide +kernel
theorem dX6_closeClause_34 : decode cX6_closeClause 34 = .ok (.if_icmp .ne 10, 3) := by decide +kernel
theorem dX6_closeClause_37 : decode cX6_closeClause 37 = .ok (.aload_n 0, 1) := by decide +kernel
theorem dX6_closeClause_38 : decode cX6_closeClause 38 = .ok (.invokevirtual 120, 3) := by decide +kernel
theorem dX6_closeClause_41 : decode cX6_closeClause 41 = .ok (.goto 39, 3) := by decide +kernel
theorem dX6_closeClause_44 : decode cX6_closeClause 44 = .ok (.aload_n 0, 1) := by decide +kernel
theorem dX6_closeClause_45 : decode cX6_closeClause 45 = .ok (.getfield 43, 3) := by decide +kernel
theorem dX6_closeClause_48 : decode cX6_closeClause 48 = .ok (.bipush 116, 2) := by decide +kernel
theorem dX6_closeClause_50 : decode cX6_closeClause 50 = .ok (.if_icmp .ne 10, 3) := by decide +kernel
theorem dX6_closeClause_53 : decode cX6_closeClause 53 = .ok (.aload_n 0, 1) := by decide +kernel
theorem dX6_closeClause_54 : decode cX6_closeClause 54 = .ok (.invokevirtual 123, 3) := by decide +kernel
theorem dX6_closeClause_57 : decode cX6_closeClause 57 = .ok (.goto 23, 3) := by decide +kernel
theorem dX6_closeClause_60 : decode cX6_closeClause 60 = .ok (.aload_n 0, 1) := by decide +kernel
theorem dX6_closeClause_61 : decode cX6_closeClause 61 = .ok (.getfield 43, 3) := by decide +kernel
theorem dX6_closeClause_64 : decode cX6_closeClause 64 = .ok (.bipush 121, 2) := by decide +kernel
theorem dX6_closeClause_66 : decode cX6_closeClause 66 = .ok (.if_icmp .ne 10, 3) := by decide +kernel
theorem dX6_closeClause_69 : decode cX6_closeClause 69 = .ok (.aload_n 0, 1) := by decide +kernel
theorem dX6_closeClause_70 : decode cX6_closeClause 70 = .ok (.invokevirtual 126, 3) := by decide +kernel
theorem dX6_closeClause_73 : decode cX6_closeClause 73 = .ok (.goto 7, 3) := by decide +kernel
theorem dX6_closeClause_76 : decode cX6_closeClause 76 = .ok (.aload_n 0, 1) := by decide +kernel
theorem dX6_closeClause_77 : decode cX6_closeClause 77 = .ok (.invokevirtual 129, 3) := by decide +kernel
theorem dX6_closeClause_80 : decode cX6_closeClause 80 = .ok (.aload_n 0, 1) := by decide +kernel
theorem dX6_closeClause_81 : decode cX6_closeClause 81 = .ok (.iconst 0, 1) := by decide +kernel
theorem dX6_closeClause_82 : decode cX6_closeClause 82 = .ok (.putfield 43, 3) := by decide +kernel
theorem dX6_closeClause_85 : decode cX6_closeClause 85 = .ok (.aload_n 0, 1) := by decide +kernel
theorem dX6_closeClause_86 : decode cX6_closeClause 86 = .ok (.iconst 0, 1) := by decide +kernel
theorem dX6_closeClause_87 : decode cX6_closeClause 87 = .ok (.putfield 68, 3) := by decide +kernel
theorem dX6_closeClause_90 : decode cX6_closeClause 90 = .ok (.return_, 1) := by decide +kernel
theorem dX6_addPerson_0 : decode cX6_addPerson 0 = .ok (.aload_n 0, 1) := by decide +kernel
theorem dX6_addPerson_1 : decode cX6_addPerson 1 = .ok (.getfield 12, 3) := by decide +kernel
theorem dX6_addPerson_4 : decode cX6_addPerson 4 = .ok (.getfield 110, 3) := by decide +kernel
theorem dX6_addPerson_7 : decode cX6_addPerson 7 = .ok (.bipush 6, 2) := by decide +kernel
theorem dX6_addPerson_9 : decode cX6_addPerson 9 = .ok (.if_icmp .lt 4, 3) := by decide +kernel
theorem dX6_addPerson_12 : decode cX6_addPerson 12 = .ok (.return_, 1) := by decide +kernel
theorem dX6_addPerson_13 : decode cX6_addPerson 13 = .ok (.aload_n 0, 1) := by decide +kernel
theorem dX6_addPerson_14 : decode cX6_addPerson 14 = .ok (.getfield 21, 3) := by decide +kernel
theorem dX6_addPerson_17 : decode cX6_addPerson 17 = .ok (.getfield 132, 3) := by decide +kernel
theorem dX6_addPerson_20 : decode cX6_addPerson 20 = .ok (.aload_n 0, 1) := by decide +kernel
theorem dX6_addPerson_21 : decode cX6_addPerson 21 = .ok (.getfield 12, 3) := by decide +kernel
theorem dX6_addPerson_24 : decode cX6_addPerson 24 = .ok (.getfield 110, 3) := by decide +kernel
theorem dX6_addPerson_27 : decode cX6_addPerson 27 = .ok (.aload_n 0, 1) := by decide +kernel
theorem dX6_addPerson_28 : decode cX6_addPerson 28 = .ok (.getfield 25, 3) := by decide +kernel
theorem dX6_addPerson_31 : decode cX6_addPerson 31 = .ok (.iconst 0, 1) := by decide +kernel
theorem dX6_addPerson_32 : decode cX6_addPerson 32 = .ok (.iaload, 1) := by decide +kernel
theorem dX6_addPerson_33 : decode cX6_addPerson 33 = .ok (.iastore, 1) := by decide +kernel
theorem dX6_addPerson_34 : decode cX6_addPerson 34 = .ok (.aload_n 0, 1) := by decide +kernel
theorem dX6_addPerson_35 : decode cX6_addPerson 35 = .ok (.getfield 21, 3) := by decide +kernel
theorem dX6_addPerson_38 : decode cX6_addPerson 38 = .ok (.getfield 135, 3) := by decide +kernel
theorem dX6_addPerson_41 : decode cX6_addPerson 41 = .ok (.aload_n 0, 1) := by decide +kernel
theorem dX6_addPerson_42 : decode cX6_addPerson 42 = .ok (.getfield 12, 3) := by decide +kernel
theorem dX6_addPerson_45 : decode cX6_addPerson 45 = .ok (.getfield 110, 3) := by decide +kernel
theorem dX6_addPerson_48 : decode cX6_addPerson 48 = .ok (.aload_n 0, 1) := by decide +kernel
theorem dX6_addPerson_49 : decode cX6_addPerson 49 = .ok (.getfield 25, 3) := by decide +kernel
theorem dX6_addPerson_52 : decode cX6_addPerson 52 = .ok (.iconst 1, 1) := by decide +kernel
theorem dX6_addPerson_53 : decode cX6_addPerson 53 = .ok (.iaload, 1) := by decide +kernel
theorem dX6_addPerson_54 : decode cX6_addPerson 54 = .ok (.iastore, 1) := by decide +kernel
theorem dX6_addPerson_55 : decode cX6_addPerson 55 = .ok (.aload_n 0, 1) := by decide +kernel
theorem dX6_addPerson_56 : decode cX6_addPerson 56 = .ok (.getfield 12, 3) := by decide +kernel
theorem dX6_addPerson_59 : decode cX6_addPerson 59 = .ok (.dup, 1) := by decide +kernel
theorem dX6_addPerson_60 : decode cX6_addPerson 60 = .ok (.getfield 110, 3) := by decide +kernel
theorem dX6_addPerson_63 : decode cX6_addPerson 63 = .ok (.iconst 1, 1) := by decide +kernel
theorem dX6_addPerson_64 : decode cX6_addPerson 64 = .ok (.iadd, 1) := by decide +kernel
theorem dX6_addPerson_65 : decode cX6_addPerson 65 = .ok (.putfield 110, 3) := by decide +kernel
theorem dX6_addPerson_68 : decode cX6_addPerson 68 = .ok (.return_, 1) := by decide +kernel
theorem dX6_addTicket_0 : decode cX6_addTicket 0 = .ok (.aload_n 0, 1) := by decide +kernel
theorem dX6_addTicket_1 : decode cX6_addTicket 1 = .ok (.getfield 12, 3) := by decide +kernel
theorem dX6_addTicket_4 : decode cX6_addTicket 4 = .ok (.getfield 117, 3) := by decide +kernel
theorem dX6_addTicket_7 : decode cX6_addTicket 7 = .ok (.bipush 8, 2) := by decide +kernel
theorem dX6_addTicket_9 : decode cX6_addTicket 9 = .ok (.if_icmp .lt 4, 3) := by decide +kernel
theorem dX6_addTicket_12 : decode cX6_addTicket 12 = .ok (.return_, 1) := by decide +kernel
theorem dX6_addTicket_13 : decode cX6_addTicket 13 = .ok (.aload_n 0, 1) := by decide +kernel
theorem dX6_addTicket_14 : decode cX6_addTicket 14 = .ok (.getfield 21, 3) := by decide +kernel
theorem dX6_addTicket_17 : decode cX6_addTicket 17 = .ok (.getfield 138, 3) := by decide +kernel
theorem dX6_addTicket_20 : decode cX6_addTicket 20 = .ok (.aload_n 0, 1) := by decide +kernel
theorem dX6_addTicket_21 : decode cX6_addTicket 21 = .ok (.getfield 12, 3) := by decide +kernel
theorem dX6_addTicket_24 : decode cX6_addTicket 24 = .ok (.getfield 117, 3) := by decide +kernel
theorem dX6_addTicket_27 : decode cX6_addTicket 27 = .ok (.aload_n 0, 1) := by decide +kernel
theorem dX6_addTicket_28 : decode cX6_addTicket 28 = .ok (.getfield 25, 3) := by decide +kernel
theorem dX6_addTicket_31 : decode cX6_addTicket 31 = .ok (.iconst 0, 1) := by decide +kernel
theorem dX6_addTicket_32 : decode cX6_addTicket 32 = .ok (.iaload, 1) := by decide +kernel
theorem dX6_addTicket_33 : decode cX6_addTicket 33 = .ok (.iastore, 1) := by decide +kernel
theorem dX6_addTicket_34 : decode cX6_addTicket 34 = .ok (.aload_n 0, 1) := by decide +kernel
theorem dX6_addTicket_35 : decode cX6_addTicket 35 = .ok (.getfield 12, 3) := by decide +kernel
theorem dX6_addTicket_38 : decode cX6_addTicket 38 = .ok (.getfield 141, 3) := by decide +kernel
theorem dX6_addTicket_41 : decode cX6_addTicket 41 = .ok (.aload_n 0, 1) := by decide +kernel
theorem dX6_addTicket_42 : decode cX6_addTicket 42 = .ok (.getfield 12, 3) := by decide +kernel
theorem dX6_addTicket_45 : decode cX6_addTicket 45 = .ok (.getfield 117, 3) := by decide +kernel
theorem dX6_addTicket_48 : decode cX6_addTicket 48 = .ok (.aload_n 0, 1) := by decide +kernel
theorem dX6_addTicket_49 : decode cX6_addTicket 49 = .ok (.getfield 25, 3) := by decide +kernel
theorem dX6_addTicket_52 : decode cX6_addTicket 52 = .ok (.iconst 1, 1) := by decide +kernel
theorem dX6_addTicket_53 : decode cX6_addTicket 53 = .ok (.iaload, 1) := by decide +kernel
theorem dX6_addTicket_54 : decode cX6_addTicket 54 = .ok (.iastore, 1) := by decide +kernel
theorem dX6_addTicket_55 : decode cX6_addTicket 55 = .ok (.aload_n 0, 1) := by decide +kernel
theorem dX6_addTicket_56 : decode cX6_addTicket 56 = .ok (.getfield 21, 3) := by decide +kernel
theorem dX6_addTicket_59 : decode cX6_addTicket 59 = .ok (.getfield 144, 3) := by decide +kernel
theorem dX6_addTicket_62 : decode cX6_addTicket 62 = .ok (.aload_n 0, 1) := by decide +kernel
theorem dX6_addTicket_63 : decode cX6_addTicket 63 = .ok (.getfield 12, 3) := by decide +kernel
theorem dX6_addTicket_66 : decode cX6_addTicket 66 = .ok (.getfield 117, 3) := by decide +kernel
theorem dX6_addTicket_69 : decode cX6_addTicket 69 = .ok (.aload_n 0, 1) := by decide +kernel
theorem dX6_addTicket_70 : decode cX6_addTicket 70 = .ok (.getfield 25, 3) := by decide +kernel
theorem dX6_addTicket_73 : decode cX6_addTicket 73 = .ok (.iconst 2, 1) := by decide +kernel
theorem dX6_addTicket_74 : decode cX6_addTicket 74 = .ok (.iaload, 1) := by decide +kernel
theorem dX6_addTicket_75 : decode cX6_addTicket 75 = .ok (.iastore, 1) := by decide +kernel
theorem dX6_addTicket_76 : decode cX6_addTicket 76 = .ok (.aload_n 0, 1) := by decide +kernel
theorem dX6_addTicket_77 : decode cX6_addTicket 77 = .ok (.getfield 12, 3) := by decide +kernel
theorem dX6_addTicket_80 : decode cX6_addTicket 80 = .ok (.dup, 1) := by decide +kernel
theorem dX6_addTicket_81 : decode cX6_addTicket 81 = .ok (.getfield 117, 3) := by decide +kernel
theorem dX6_addTicket_84 : decode cX6_addTicket 84 = .ok (.iconst 1, 1) := by decide +kernel
theorem dX6_addTicket_85 : decode cX6_addTicket 85 = .ok (.iadd, 1) := by decide +kernel
theorem dX6_addTicket_86 : decode cX6_addTicket 86 = .ok (.putfield 117, 3) := by decide +kernel
theorem dX6_addTicket_89 : decode cX6_addTicket 89 = .ok (.return_, 1) := by decide +kernel
theorem dX6_setYear_0 : decode cX6_setYear 0 = .ok (.aload_n 0, 1) := by decide +kernel
theorem dX6_setYear_1 : decode cX6_setYear 1 = .ok (.getfield 12, 3) := by decide +kernel
theorem dX6_setYear_4 : decode cX6_setYear 4 = .ok (.aload_n 0, 1) := by decide +kernel
theorem dX6_setYear_5 : decode cX6_setYear 5 = .ok (.getfield 25, 3) := by decide +kernel
theorem dX6_setYear_8 : decode cX6_setYear 8 = .ok (.iconst 0, 1) := by decide +kernel
theorem dX6_setYear_9 : decode cX6_setYear 9 = .ok (.iaload, 1) := by decide +kernel
theorem dX6_setYear_10 : decode cX6_setYear 10 = .ok (.putfield 147, 3) := by decide +kernel
theorem dX6_setYear_13 : decode cX6_setYear 13 = .ok (.aload_n 0, 1) := by decide +kernel
theorem dX6_setYear_14 : decode cX6_setYear 14 = .ok (.getfield 12, 3) := by decide +kernel
theorem dX6_setYear_17 : decode cX6_setYear 17 = .ok (.aload_n 0, 1) := by decide +kernel
theorem dX6_setYear_18 : decode cX6_setYear 18 = .ok (.getfield 25, 3) := by decide +kernel
theorem dX6_setYear_21 : decode cX6_setYear 21 = .ok (.iconst 1, 1) := by decide +kernel
theorem dX6_setYear_22 : decode cX6_setYear 22 = .ok (.iaload, 1) := by decide +kernel
theorem dX6_setYear_23 : decode cX6_setYear 23 = .ok (.iconst 1, 1) := by decide +kernel
theorem dX6_setYear_24 : decode cX6_setYear 24 = .ok (.if_icmp .ne 7, 3) := by decide +kernel
theorem dX6_setYear_27 : decode cX6_setYear 27 = .ok (.iconst 1, 1) := by decide +kernel
theorem dX6_setYear_28 : decode cX6_setYear 28 = .ok (.goto 4, 3) := by decide +kernel
theorem dX6_setYear_31 : decode cX6_setYear 31 = .ok (.iconst 0, 1) := by decide +kernel
theorem dX6_setYear_32 : decode cX6_setYear 32 = .ok (.putfield 150, 3) := by decide +kernel
theorem dX6_setYear_35 : decode cX6_setYear 35 = .ok (.aload_n 0, 1) := by decide +kernel
theorem dX6_setYear_36 : decode cX6_setYear 36 = .ok (.iconst 1, 1) := by decide +kernel
theorem dX6_setYear_37 : decode cX6_setYear 37 = .ok (.putfield 80, 3) := by decide +kernel
theorem dX6_setYear_40 : decode cX6_setYear 40 = .ok (.return_, 1) := by decide +kernel
theorem dX6_setRights_0 : decode cX6_setRights 0 = .ok (.aload_n 0, 1) := by decide +kernel
theorem dX6_setRights_1 : decode cX6_setRights 1 = .ok (.getfield 25, 3) := by decide +kernel
theorem dX6_setRights_4 : decode cX6_setRights 4 = .ok (.iconst 0, 1) := by decide +kernel
theorem dX6_setRights_5 : decode cX6_setRights 5 = .ok (.aload_n 0, 1) := by decide +kernel
theorem dX6_setRights_6 : decode cX6_setRights 6 = .ok (.getfield 12, 3) := by decide +kernel
theorem dX6_setRights_9 : decode cX6_setRights 9 = .ok (.getfield 153, 3) := by decide +kernel
theorem dX6_setRights_12 : decode cX6_setRights 12 = .ok (.iconst 0, 1) := by decide +kernel
theorem dX6_setRights_13 : decode cX6_setRights 13 = .ok (.iconst 4, 1) := by decide +kernel
theorem dX6_setRights_14 : decode cX6_setRights 14 = .ok (.invokestatic 156, 3) := by decide +kernel
theorem dX6_setRights_17 : decode cX6_setRights 17 = .ok (.aload_n 0, 1) := by decide +kernel
theorem dX6_setRights_18 : decode cX6_setRights 18 = .ok (.iconst 1, 1) := by decide +kernel
theorem dX6_setRights_19 : decode cX6_setRights 19 = .ok (.putfield 84, 3) := by decide +kernel
theorem dX6_setRights_22 : decode cX6_setRights 22 = .ok (.return_, 1) := by decide +kernel
set_option maxRecDepth 20000 in
theorem ggX7_init_X7_setUntold : GoodIn wsX7_init wsX7_setUntold := goodIn_r _ [11, 12, 13, 14, 15, 6, 16, 17, 18, 19, 20, 21] (by decide +kernel) (by decide +kernel)
set_option maxRecDepth 20000 in
theorem gX7_init_X7_setUntold : GoodIn wsX7_init (wsV RX7 18 RX7 yX7_setUntold wsX7_setUntold) := goodIn_app (goodIn_of _ (by decide +kernel)) ggX7_init_X7_setUntold
theorem dX7_init_0 : decode cX7_init 0 = .ok (.aload_n 0, 1) := by decide +kernel
theorem dX7_init_1 : decode cX7_init 1 = .ok (.invokespecial 3, 3) := by decide +kernel
theorem dX7_init_4 : decode cX7_init 4 = .ok (.aload_n 0, 1) := by decide +kernel
theorem dX7_init_5 : decode cX7_init 5 = .ok (.bipush 8, 2) := by decide +kernel
theorem dX7_init_7 : decode cX7_init 7 = .ok (.newarray .int, 2) := by decide +kernel
theorem dX7_init_9 : decode cX7_init 9 = .ok (.putfield 9, 3) := by decide +kernel
theorem dX7_init_12 : decode cX7_init 12 = .ok (.aload_n 0, 1) := by decide +kernel
theorem dX7_init_13 : decode cX7_init 13 = .ok (.iconst 4, 1) := by decide +kernel
theorem dX7_init_14 : decode cX7_init 14 = .ok (.newarray .int, 2) := by decide +kernel
theorem dX7_init_16 : decode cX7_init 16 = .ok (.putfield 15, 3) := by decide +kernel
theorem dX7_init_19 : decode cX7_init 19 = .ok (.aload_n 0, 1) := by decide +kernel
theorem dX7_init_20 : decode cX7_init 20 = .ok (.invokevirtual 18, 3) := by decide +kernel
theorem dX7_init_23 : decode cX7_init 23 = .ok (.return_, 1) := by decide +kernel
theorem dX7_setUntold_0 : decode cX7_setUntold 0 = .ok (.aload_n 0, 1) := by decide +kernel
theorem dX7_setUntold_1 : decode cX7_setUntold 1 = .ok (.iconst 0, 1) := by decide +kernel
theorem dX7_setUntold_2 : decode cX7_setUntold 2 = .ok (.putfield 21, 3) := by decide +kernel
theorem dX7_setUntold_5 : decode cX7_setUntold 5 = .ok (.aload_n 0, 1) := by decide +kernel
theorem dX7_setUntold_6 : decode cX7_setUntold 6 = .ok (.iconst 0, 1) := by decide +kernel
theorem dX7_setUntold_7 : decode cX7_setUntold 7 = .ok (.putfield 25, 3) := by decide +kernel
theorem dX7_setUntold_10 : decode cX7_setUntold 10 = .ok (.aload_n 0, 1) := by decide +kernel
theorem dX7_setUntold_11 : decode cX7_setUntold 11 = .ok (.iconst 4, 1) := by decide +kernel
theorem dX7_setUntold_12 : decode cX7_setUntold 12 = .ok (.putfield 28, 3) := by decide +kernel
theorem dX7_setUntold_15 : decode cX7_setUntold 15 = .ok (.aload_n 0, 1) := by decide +kernel
theorem dX7_setUntold_16 : decode cX7_setUntold 16 = .ok (.iconst 1, 1) := by decide +kernel
theorem dX7_setUntold_17 : decode cX7_setUntold 17 = .ok (.putfield 31, 3) := by decide +kernel
theorem dX7_setUntold_20 : decode cX7_setUntold 20 = .ok (.aload_n 0, 1) := by decide +kernel
theorem dX7_setUntold_21 : decode cX7_setUntold 21 = .ok (.getfield 15, 3) := by decide +kernel
theorem dX7_setUntold_24 : decode cX7_setUntold 24 = .ok (.iconst 0, 1) := by decide +kernel
theorem dX7_setUntold_25 : decode cX7_setUntold 25 = .ok (.bipush 6, 2) := by decide +kernel
theorem dX7_setUntold_27 : decode cX7_setUntold 27 = .ok (.iastore, 1) := by decide +kernel
theorem dX7_setUntold_28 : decode cX7_setUntold 28 = .ok (.aload_n 0, 1) := by decide +kernel
theorem dX7_setUntold_29 : decode cX7_setUntold 29 = .ok (.getfield 15, 3) := by decide +kernel
theorem dX7_setUntold_32 : decode cX7_setUntold 32 = .ok (.iconst 1, 1) := by decide +kernel
theorem dX7_setUntold_33 : decode cX7_setUntold 33 = .ok (.bipush 18, 2) := by decide +kernel
theorem dX7_setUntold_35 : decode cX7_setUntold 35 = .ok (.iastore, 1) := by decide +kernel
theorem dX7_setUntold_36 : decode cX7_setUntold 36 = .ok (.aload_n 0, 1) := by decide +kernel
theorem dX7_setUntold_37 : decode cX7_setUntold 37 = .ok (.getfield 15, 3) := by decide +kernel
theorem dX7_setUntold_40 : decode cX7_setUntold 40 = .ok (.iconst 2, 1) := by decide +kernel
theorem dX7_setUntold_41 : decode cX7_setUntold 41 = .ok (.bipush 18, 2) := by decide +kernel
theorem dX7_setUntold_43 : decode cX7_setUntold 43 = .ok (.iastore, 1) := by decide +kernel
theorem dX7_setUntold_44 : decode cX7_setUntold 44 = .ok (.aload_n 0, 1) := by decide +kernel
theorem dX7_setUntold_45 : decode cX7_setUntold 45 = .ok (.getfield 15, 3) := by decide +kernel
theorem dX7_setUntold_48 : decode cX7_setUntold 48 = .ok (.iconst 3, 1) := by decide +kernel
theorem dX7_setUntold_49 : decode cX7_setUntold 49 = .ok (.bipush 65, 2) := by decide +kernel
theorem dX7_setUntold_51 : decode cX7_setUntold 51 = .ok (.iastore, 1) := by decide +kernel
theorem dX7_setUntold_52 : decode cX7_setUntold 52 = .ok (.return_, 1) := by decide +kernel
theorem dX7_copyFrom_0 : decode cX7_copyFrom 0 = .ok (.aload_n 1, 1) := by decide +kernel
theorem dX7_copyFrom_1 : decode cX7_copyFrom 1 = .ok (.getfield 9, 3) := by decide +kernel
theorem dX7_copyFrom_4 : decode cX7_copyFrom 4 = .ok (.iconst 0, 1) := by decide +kernel
theorem dX7_copyFrom_5 : decode cX7_copyFrom 5 = .ok (.aload_n 0, 1) := by decide +kernel
theorem dX7_copyFrom_6 : decode cX7_copyFrom 6 = .ok (.getfield 9, 3) := by decide +kernel
theorem dX7_copyFrom_9 : decode cX7_copyFrom 9 = .ok (.iconst 0, 1) := by decide +kernel
theorem dX7_copyFrom_10 : decode cX7_copyFrom 10 = .ok (.bipush 8, 2) := by decide +kernel
theorem dX7_copyFrom_12 : decode cX7_copyFrom 12 = .ok (.invokestatic 35, 3) := by decide +kernel
theorem dX7_copyFrom_15 : decode cX7_copyFrom 15 = .ok (.aload_n 1, 1) := by decide +kernel
theorem dX7_copyFrom_16 : decode cX7_copyFrom 16 = .ok (.getfield 15, 3) := by decide +kernel
theorem dX7_copyFrom_19 : decode cX7_copyFrom 19 = .ok (.iconst 0, 1) := by decide +kernel
theorem dX7_copyFrom_20 : decode cX7_copyFrom 20 = .ok (.aload_n 0, 1) := by decide +kernel
theorem dX7_copyFrom_21 : decode cX7_copyFrom 21 = .ok (.getfield 15, 3) := by decide +kernel
theorem dX7_copyFrom_24 : decode cX7_copyFrom 24 = .ok (.iconst 0, 1) := by decide +kernel
theorem dX7_copyFrom_25 : decode cX7_copyFrom 25 = .ok (.iconst 4, 1) := by decide +kernel
theorem dX7_copyFrom_26 : decode cX7_copyFrom 26 = .ok (.invokestatic 35, 3) := by decide +kernel
theorem dX7_copyFrom_29 : decode cX7_copyFrom 29 = .ok (.aload_n 0, 1) := by decide +kernel
theorem dX7_copyFrom_30 : decode cX7_copyFrom 30 = .ok (.aload_n 1, 1) := by decide +kernel
theorem dX7_copyFrom_31 : decode cX7_copyFrom 31 = .ok (.getfield 21, 3) := by decide +kernel
theorem dX7_copyFrom_34 : decode cX7_copyFrom 34 = .ok (.putfield 21, 3) := by decide +kernel
theorem dX7_copyFrom_37 : decode cX7_copyFrom 37 = .ok (.aload_n 0, 1) := by decide +kernel
theorem dX7_copyFrom_38 : decode cX7_copyFrom 38 = .ok (.aload_n 1, 1) := by decide +kernel
theorem dX7_copyFrom_39 : decode cX7_copyFrom 39 = .ok (.getfield 25, 3) := by decide +kernel
theorem dX7_copyFrom_42 : decode cX7_copyFrom 42 = .ok (.putfield 25, 3) := by decide +kernel
theorem dX7_copyFrom_45 : decode cX7_copyFrom 45 = .ok (.aload_n 0, 1) := by decide +kernel
theorem dX7_copyFrom_46 : decode cX7_copyFrom 46 = .ok (.aload_n 1, 1) := by decide +kernel
theorem dX7_copyFrom_47 : decode cX7_copyFrom 47 = .ok (.getfield 28, 3) := by decide +kernel
theorem dX7_copyFrom_50 : decode cX7_copyFrom 50 = .ok (.putfield 28, 3) := by decide +kernel
theorem dX7_copyFrom_53 : decode cX7_copyFrom 53 = .ok (.aload_n 0, 1) := by decide +kernel
theorem dX7_copyFrom_54 : decode cX7_copyFrom 54 = .ok (.aload_n 1, 1) := by decide +kernel
theorem dX7_copyFrom_55 : decode cX7_copyFrom 55 = .ok (.getfield 31, 3) := by decide +kernel
theorem dX7_copyFrom_58 : decode cX7_copyFrom 58 = .ok (.putfield 31, 3) := by decide +kernel
theorem dX7_copyFrom_61 : decode cX7_copyFrom 61 = .ok (.return_, 1) := by decide +kernel
theorem dX7_everyTicket_0 : decode cX7_everyTicket 0 = .ok (.iconst 1, 1) := by decide +kernel
theorem dX7_everyTicket_1 : decode cX7_everyTicket 1 = .ok (.aload_n 0, 1) := by decide +kernel
theorem dX7_everyTicket_2 : decode cX7_everyTicket 2 = .ok (.getfield 25, 3) := by decide +kernel
theorem dX7_everyTicket_5 : decode cX7_everyTicket 5 = .ok (.ishl, 1) := by decide +kernel
theorem dX7_everyTicket_6 : decode cX7_everyTicket 6 = .ok (.iconst 1, 1) := by decide +kernel
theorem dX7_everyTicket_7 : decode cX7_everyTicket 7 = .ok (.isub, 1) := by decide +kernel
theorem dX7_everyTicket_8 : decode cX7_everyTicket 8 = .ok (.ireturn, 1) := by decide +kernel
set_option maxRecDepth 20000 in
theorem ggX7_weightOf_X10_holds : GoodIn wsX7_weightOf wsX10_holds := goodIn_r _ [5] (by decide +kernel) (by decide +kernel)
set_option maxRecDepth 20000 in
theorem gX7_weightOf_X10_holds_n41 : GoodIn wsX7_weightOf (wsX10_holds) := ggX7_weightOf_X10_holds
theorem dX7_weightOf_0 : decode cX7_weightOf 0 = .ok (.iconst 0, 1) := by decide +kernel
theorem dX7_weightOf_1 : decode cX7_weightOf 1 = .ok (.istore_n 2, 1) := by decide +kernel
theorem dX7_weightOf_2 : decode cX7_weightOf 2 = .ok (.iconst 0, 1) := by decide +kernel
theorem dX7_weightOf_3 : decode cX7_weightOf 3 = .ok (.istore_n 3, 1) := by decide +kernel
theorem dX7_weightOf_4 : decode cX7_weightOf 4 = .ok (.iload_n 3, 1) := by decide +kernel
theorem dX7_weightOf_5 : decode cX7_weightOf 5 = .ok (.aload_n 0, 1) := by decide +kernel
theorem dX7_weightOf_6 : decode cX7_weightOf 6 = .ok (.getfield 25, 3) := by decide +kernel
theorem dX7_weightOf_9 : decode cX7_weightOf 9 = .ok (.if_icmp .ge 26, 3) := by decide +kernel
theorem dX7_weightOf_12 : decode cX7_weightOf 12 = .ok (.iload_n 1, 1) := by decide +kernel
theorem dX7_weightOf_13 : decode cX7_weightOf 13 = .ok (.iload_n 3, 1) := by decide +kernel
theorem dX7_weightOf_14 : decode cX7_weightOf 14 = .ok (.invokestatic 41, 3) := by decide +kernel
theorem dX7_weightOf_17 : decode cX7_weightOf 17 = .ok (.ifCond .eq 12, 3) := by decide +kernel
theorem dX7_weightOf_20 : decode cX7_weightOf 20 = .ok (.iload_n 2, 1) := by decide +kernel
theorem dX7_weightOf_21 : decode cX7_weightOf 21 = .ok (.aload_n 0, 1) := by decide +kernel
theorem dX7_weightOf_22 : decode cX7_weightOf 22 = .ok (.getfield 9, 3) := by decide +kernel
theorem dX7_weightOf_25 : decode cX7_weightOf 25 = .ok (.iload_n 3, 1) := by decide +kernel
theorem dX7_weightOf_26 : decode cX7_weightOf 26 = .ok (.iaload, 1) := by decide +kernel
theorem dX7_weightOf_27 : decode cX7_weightOf 27 = .ok (.iadd, 1) := by decide +kernel
theorem dX7_weightOf_28 : decode cX7_weightOf 28 = .ok (.istore_n 2, 1) := by decide +kernel
theorem dX7_weightOf_29 : decode cX7_weightOf 29 = .ok (.iinc 3 1, 3) := by decide +kernel
theorem dX7_weightOf_32 : decode cX7_weightOf 32 = .ok (.goto (-28), 3) := by decide +kernel
theorem dX7_weightOf_35 : decode cX7_weightOf 35 = .ok (.iload_n 2, 1) := by decide +kernel
theorem dX7_weightOf_36 : decode cX7_weightOf 36 = .ok (.ireturn, 1) := by decide +kernel
theorem dX7_rightsAt_0 : decode cX7_rightsAt 0 = .ok (.iconst 0, 1) := by decide +kernel
theorem dX7_rightsAt_1 : decode cX7_rightsAt 1 = .ok (.istore_n 2, 1) := by decide +kernel
theorem dX7_rightsAt_2 : decode cX7_rightsAt 2 = .ok (.iconst 0, 1) := by decide +kernel
theorem dX7_rightsAt_3 : decode cX7_rightsAt 3 = .ok (.istore_n 3, 1) := by decide +kernel
theorem dX7_rightsAt_4 : decode cX7_rightsAt 4 = .ok (.iload_n 3, 1) := by decide +kernel
theorem dX7_rightsAt_5 : decode cX7_rightsAt 5 = .ok (.iconst 4, 1) := by decide +kernel
theorem dX7_rightsAt_6 : decode cX7_rightsAt 6 = .ok (.if_icmp .ge 25, 3) := by decide +kernel
theorem dX7_rightsAt_9 : decode cX7_rightsAt 9 = .ok (.iload_n 1, 1) := by decide +kernel
theorem dX7_rightsAt_10 : decode cX7_rightsAt 10 = .ok (.aload_n 0, 1) := by decide +kernel
theorem dX7_rightsAt_11 : decode cX7_rightsAt 11 = .ok (.getfield 15, 3) := by decide +kernel
theorem dX7_rightsAt_14 : decode cX7_rightsAt 14 = .ok (.iload_n 3, 1) := by decide +kernel
theorem dX7_rightsAt_15 : decode cX7_rightsAt 15 = .ok (.iaload, 1) := by decide +kernel
theorem dX7_rightsAt_16 : decode cX7_rightsAt 16 = .ok (.if_icmp .lt 9, 3) := by decide +kernel
theorem dX7_rightsAt_19 : decode cX7_rightsAt 19 = .ok (.iload_n 2, 1) := by decide +kernel
theorem dX7_rightsAt_20 : decode cX7_rightsAt 20 = .ok (.iconst 1, 1) := by decide +kernel
theorem dX7_rightsAt_21 : decode cX7_rightsAt 21 = .ok (.iload_n 3, 1) := by decide +kernel
theorem dX7_rightsAt_22 : decode cX7_rightsAt 22 = .ok (.ishl, 1) := by decide +kernel
theorem dX7_rightsAt_23 : decode cX7_rightsAt 23 = .ok (.ior, 1) := by decide +kernel
theorem dX7_rightsAt_24 : decode cX7_rightsAt 24 = .ok (.istore_n 2, 1) := by decide +kernel
theorem dX7_rightsAt_25 : decode cX7_rightsAt 25 = .ok (.iinc 3 1, 3) := by decide +kernel
theorem dX7_rightsAt_28 : decode cX7_rightsAt 28 = .ok (.goto (-24), 3) := by decide +kernel
theorem dX7_rightsAt_31 : decode cX7_rightsAt 31 = .ok (.iload_n 2, 1) := by decide +kernel
theorem dX7_rightsAt_32 : decode cX7_rightsAt 32 = .ok (.ireturn, 1) := by decide +kernel
set_option maxRecDepth 20000 in
theorem ggX7_ticketAt_X10_holds : GoodIn wsX7_ticketAt wsX10_holds := goodIn_r _ [5] (by decide +kernel) (by decide +kernel)
set_option maxRecDepth 20000 in
theorem gX7_ticketAt_X10_holds_n41 : GoodIn wsX7_ticketAt (wsX10_holds) := ggX7_ticketAt_X10_holds
theorem dX7_ticketAt_0 : decode cX7_ticketAt 0 = .ok (.iload_n 2, 1) := by decide +kernel
theorem dX7_ticketAt_1 : decode cX7_ticketAt 1 = .ok (.istore_n 3, 1) := by decide +kernel
theorem dX7_ticketAt_2 : decode cX7_ticketAt 2 = .ok (.iconst 0, 1) := by decide +kernel
theorem dX7_ticketAt_3 : decode cX7_ticketAt 3 = .ok (.istore 4, 2) := by decide +kernel
theorem dX7_ticketAt_5 : decode cX7_ticketAt 5 = .ok (.iload 4, 2) := by decide +kernel
theorem dX7_ticketAt_7 : decode cX7_ticketAt 7 = .ok (.aload_n 0, 1) := by decide +kernel
theorem dX7_ticketAt_8 : decode cX7_ticketAt 8 = .ok (.getfield 25, 3) := by decide +kernel
theorem dX7_ticketAt_11 : decode cX7_ticketAt 11 = .ok (.if_icmp .ge 38, 3) := by decide +kernel
theorem dX7_ticketAt_14 : decode cX7_ticketAt 14 = .ok (.iload_n 1, 1) := by decide +kernel
theorem dX7_ticketAt_15 : decode cX7_ticketAt 15 = .ok (.iload 4, 2) := by decide +kernel
theorem dX7_ticketAt_17 : decode cX7_ticketAt 17 = .ok (.invokestatic 41, 3) := by decide +kernel
theorem dX7_ticketAt_20 : decode cX7_ticketAt 20 = .ok (.ifCond .ne 6, 3) := by decide +kernel
theorem dX7_ticketAt_23 : decode cX7_ticketAt 23 = .ok (.goto 20, 3) := by decide +kernel
theorem dX7_ticketAt_26 : decode cX7_ticketAt 26 = .ok (.iload_n 3, 1) := by decide +kernel
theorem dX7_ticketAt_27 : decode cX7_ticketAt 27 = .ok (.aload_n 0, 1) := by decide +kernel
theorem dX7_ticketAt_28 : decode cX7_ticketAt 28 = .ok (.getfield 9, 3) := by decide +kernel
theorem dX7_ticketAt_31 : decode cX7_ticketAt 31 = .ok (.iload 4, 2) := by decide +kernel
theorem dX7_ticketAt_33 : decode cX7_ticketAt 33 = .ok (.iaload, 1) := by decide +kernel
theorem dX7_ticketAt_34 : decode cX7_ticketAt 34 = .ok (.isub, 1) := by decide +kernel
theorem dX7_ticketAt_35 : decode cX7_ticketAt 35 = .ok (.istore_n 3, 1) := by decide +kernel
theorem dX7_ticketAt_36 : decode cX7_ticketAt 36 = .ok (.iload_n 3, 1) := by decide +kernel
theorem dX7_ticketAt_37 : decode cX7_ticketAt 37 = .ok (.ifCond .ge 6, 3) := by decide +kernel
theorem dX7_ticketAt_40 : decode cX7_ticketAt 40 = .ok (.iload 4, 2) := by decide +kernel
theorem dX7_ticketAt_42 : decode cX7_ticketAt 42 = .ok (.ireturn, 1) := by decide +kernel
theorem dX7_ticketAt_43 : decode cX7_ticketAt 43 = .ok (.iinc 4 1, 3) := by decide +kernel
theorem dX7_ticketAt_46 : decode cX7_ticketAt 46 = .ok (.goto (-41), 3) := by decide +kernel
theorem dX7_ticketAt_49 : decode cX7_ticketAt 49 = .ok (.iconst (-1), 1) := by decide +kernel
theorem dX7_ticketAt_50 : decode cX7_ticketAt 50 = .ok (.ireturn, 1) := by decide +kernel
theorem dX7_drumWithout_0 : decode cX7_drumWithout 0 = .ok (.aload_n 0, 1) := by decide +kernel
theorem dX7_drumWithout_1 : decode cX7_drumWithout 1 = .ok (.getfield 31, 3) := by decide +kernel
theorem dX7_drumWithout_4 : decode cX7_drumWithout 4 = .ok (.ifCond .eq 7, 3) := by decide +kernel
theorem dX7_drumWithout_7 : decode cX7_drumWithout 7 = .ok (.iload_n 1, 1) := by decide +kernel
theorem dX7_drumWithout_8 : decode cX7_drumWithout 8 = .ok (.goto 10, 3) := by decide +kernel
theorem dX7_drumWithout_11 : decode cX7_drumWithout 11 = .ok (.iload_n 1, 1) := by decide +kernel
theorem dX7_drumWithout_12 : decode cX7_drumWithout 12 = .ok (.iconst 1, 1) := by decide +kernel
theorem dX7_drumWithout_13 : decode cX7_drumWithout 13 = .ok (.iload_n 2, 1) := by decide +kernel
theorem dX7_drumWithout_14 : decode cX7_drumWithout 14 = .ok (.ishl, 1) := by decide +kernel
theorem dX7_drumWithout_15 : decode cX7_drumWithout 15 = .ok (.iconst (-1), 1) := by decide +kernel
theorem dX7_drumWithout_16 : decode cX7_drumWithout 16 = .ok (.ixor, 1) := by decide +kernel
theorem dX7_drumWithout_17 : decode cX7_drumWithout 17 = .ok (.iand, 1) := by decide +kernel
theorem dX7_drumWithout_18 : decode cX7_drumWithout 18 = .ok (.ireturn, 1) := by decide +kernel
set_option maxRecDepth 20000 in
theorem ggX7_endsYear_X7_drumWithout : GoodIn wsX7_endsYear wsX7_drumWithout := goodIn_r _ [6, 7, 8, 9, 10, 11, 12, 13] (by decide +kernel) (by decide +kernel)
set_option maxRecDepth 20000 in
theorem gX7_endsYear_X7_drumWithout : GoodIn wsX7_endsYear (wsV RX7 45 RX7 yX7_drumWithout wsX7_drumWithout) := goodIn_app (goodIn_of _ (by decide +kernel)) ggX7_endsYear_X7_drumWithout
theorem dX7_endsYear_0 : decode cX7_endsYear 0 = .ok (.iload_n 2, 1) := by decide +kernel
theorem dX7_endsYear_1 : decode cX7_endsYear 1 = .ok (.iconst 1, 1) := by decide +kernel
theorem dX7_endsYear_2 : decode cX7_endsYear 2 = .ok (.iadd, 1) := by decide +kernel
theorem dX7_endsYear_3 : decode cX7_endsYear 3 = .ok (.aload_n 0, 1) := by decide +kernel
theorem dX7_endsYear_4 : decode cX7_endsYear 4 = .ok (.getfield 28, 3) := by decide +kernel
theorem dX7_endsYear_7 : decode cX7_endsYear 7 = .ok (.if_icmp .ge 12, 3) := by decide +kernel
theorem dX7_endsYear_10 : decode cX7_endsYear 10 = .ok (.aload_n 0, 1) := by decide +kernel
theorem dX7_endsYear_11 : decode cX7_endsYear 11 = .ok (.iload_n 1, 1) := by decide +kernel
theorem dX7_endsYear_12 : decode cX7_endsYear 12 = .ok (.iload_n 3, 1) := by decide +kernel
theorem dX7_endsYear_13 : decode cX7_endsYear 13 = .ok (.invokevirtual 45, 3) := by decide +kernel
theorem dX7_endsYear_16 : decode cX7_endsYear 16 = .ok (.ifCond .ne 7, 3) := by decide +kernel
theorem dX7_endsYear_19 : decode cX7_endsYear 19 = .ok (.iconst 1, 1) := by decide +kernel
theorem dX7_endsYear_20 : decode cX7_endsYear 20 = .ok (.goto 4, 3) := by decide +kernel
theorem dX7_endsYear_23 : decode cX7_endsYear 23 = .ok (.iconst 0, 1) := by decide +kernel
theorem dX7_endsYear_24 : decode cX7_endsYear 24 = .ok (.ireturn, 1) := by decide +kernel
set_option maxRecDepth 20000 in
theorem ggX7_drumAfter_X7_endsYear : GoodIn wsX7_drumAfter wsX7_endsYear := goodIn_r _ [5, 6, 7, 8, 9, 4, 10, 11, 17, 18, 19, 20, 21, 22] (by decide +kernel) (by decide +kernel)
set_option maxRecDepth 20000 in
theorem gX7_drumAfter_X7_endsYear : GoodIn wsX7_drumAfter (wsV RX7 49 RX7 yX7_endsYear wsX7_endsYear) := goodIn_app (goodIn_of _ (by decide +kernel)) ggX7_drumAfter_X7_endsYear
set_option maxRecDepth 20000 in
theorem ggX7_drumAfter_X7_everyTicket : GoodIn wsX7_drumAfter wsX7_everyTicket := goodIn_r _ [15, 16, 17, 18, 19, 20, 21, 22] (by decide +kernel) (by decide +kernel)
set_option maxRecDepth 20000 in
theorem gX7_drumAfter_X7_everyTicket : GoodIn wsX7_drumAfter (wsV RX7 53 RX7 yX7_everyTicket wsX7_everyTicket) := goodIn_app (goodIn_of _ (by decide +kernel)) ggX7_drumAfter_X7_everyTicket
set_option maxRecDepth 20000 in
theorem ggX7_drumAfter_X7_drumWithout : GoodIn wsX7_drumAfter wsX7_drumWithout := goodIn_r _ [10, 11, 17, 18, 19, 20, 21, 22] (by decide +kernel) (by decide +kernel)
set_option maxRecDepth 20000 in
theorem gX7_drumAfter_X7_drumWithout : GoodIn wsX7_drumAfter (wsV RX7 45 RX7 yX7_drumWithout wsX7_drumWithout) := goodIn_app (goodIn_of _ (by decide +kernel)) ggX7_drumAfter_X7_drumWithout
theorem dX7_drumAfter_0 : decode cX7_drumAfter 0 = .ok (.aload_n 0, 1) := by decide +kernel
theorem dX7_drumAfter_1 : decode cX7_drumAfter 1 = .ok (.iload_n 1, 1) := by decide +kernel
theorem dX7_drumAfter_2 : decode cX7_drumAfter 2 = .ok (.iload_n 2, 1) := by decide +kernel
theorem dX7_drumAfter_3 : decode cX7_drumAfter 3 = .ok (.iload_n 3, 1) := by decide +kernel
theorem dX7_drumAfter_4 : decode cX7_drumAfter 4 = .ok (.invokevirtual 49, 3) := by decide +kernel
theorem dX7_drumAfter_7 : decode cX7_drumAfter 7 = .ok (.ifCond .eq 10, 3) := by decide +kernel
theorem dX7_drumAfter_10 : decode cX7_drumAfter 10 = .ok (.aload_n 0, 1) := by decide +kernel
theorem dX7_drumAfter_11 : decode cX7_drumAfter 11 = .ok (.invokevirtual 53, 3) := by decide +kernel
theorem dX7_drumAfter_14 : decode cX7_drumAfter 14 = .ok (.goto 9, 3) := by decide +kernel
theorem dX7_drumAfter_17 : decode cX7_drumAfter 17 = .ok (.aload_n 0, 1) := by decide +kernel
theorem dX7_drumAfter_18 : decode cX7_drumAfter 18 = .ok (.iload_n 1, 1) := by decide +kernel
theorem dX7_drumAfter_19 : decode cX7_drumAfter 19 = .ok (.iload_n 3, 1) := by decide +kernel
theorem dX7_drumAfter_20 : decode cX7_drumAfter 20 = .ok (.invokevirtual 45, 3) := by decide +kernel
theorem dX7_drumAfter_23 : decode cX7_drumAfter 23 = .ok (.ireturn, 1) := by decide +kernel
set_option maxRecDepth 20000 in
theorem ggX7_drawsAfter_X7_endsYear : GoodIn wsX7_drawsAfter wsX7_endsYear := goodIn_r _ [5, 6, 7, 8, 9, 4, 10, 11, 12, 13, 14, 15, 16, 17] (by decide +kernel) (by decide +kernel)
set_option maxRecDepth 20000 in
theorem gX7_drawsAfter_X7_endsYear : GoodIn wsX7_drawsAfter (wsV RX7 49 RX7 yX7_endsYear wsX7_endsYear) := goodIn_app (goodIn_of _ (by decide +kernel)) ggX7_drawsAfter_X7_endsYear
theorem dX7_drawsAfter_0 : decode cX7_drawsAfter 0 = .ok (.aload_n 0, 1) := by decide +kernel
theorem dX7_drawsAfter_1 : decode cX7_drawsAfter 1 = .ok (.iload_n 1, 1) := by decide +kernel
theorem dX7_drawsAfter_2 : decode cX7_drawsAfter 2 = .ok (.iload_n 2, 1) := by decide +kernel
theorem dX7_drawsAfter_3 : decode cX7_drawsAfter 3 = .ok (.iload_n 3, 1) := by decide +kernel
theorem dX7_drawsAfter_4 : decode cX7_drawsAfter 4 = .ok (.invokevirtual 49, 3) := by decide +kernel
theorem dX7_drawsAfter_7 : decode cX7_drawsAfter 7 = .ok (.ifCond .eq 7, 3) := by decide +kernel
theorem dX7_drawsAfter_10 : decode cX7_drawsAfter 10 = .ok (.iconst 0, 1) := by decide +kernel
theorem dX7_drawsAfter_11 : decode cX7_drawsAfter 11 = .ok (.goto 6, 3) := by decide +kernel
theorem dX7_drawsAfter_14 : decode cX7_drawsAfter 14 = .ok (.iload_n 2, 1) := by decide +kernel
theorem dX7_drawsAfter_15 : decode cX7_drawsAfter 15 = .ok (.iconst 1, 1) := by decide +kernel
theorem dX7_drawsAfter_16 : decode cX7_drawsAfter 16 = .ok (.iadd, 1) := by decide +kernel
theorem dX7_drawsAfter_17 : decode cX7_drawsAfter 17 = .ok (.ireturn, 1) := by decide +kernel
theorem dX8_init_0 : decode cX8_init 0 = .ok (.aload_n 0, 1) := by decide +kernel
theorem dX8_init_1 : decode cX8_init 1 = .ok (.invokespecial 3, 3) := by decide +kernel
theorem dX8_init_4 : decode cX8_init 4 = .ok (.aload_n 0, 1) := by decide +kernel
theorem dX8_init_5 : decode cX8_init 5 = .ok (.bipush 8, 2) := by decide +kernel
theorem dX8_init_7 : decode cX8_init 7 = .ok (.newarray .int, 2) := by decide +kernel
theorem dX8_init_9 : decode cX8_init 9 = .ok (.putfield 9, 3) := by decide +kernel
theorem dX8_init_12 : decode cX8_init 12 = .ok (.aload_n 0, 1) := by decide +kernel
theorem dX8_init_13 : decode cX8_init 13 = .ok (.iconst 0, 1) := by decide +kernel
theorem dX8_init_14 : decode cX8_init 14 = .ok (.putfield 15, 3) := by decide +kernel
theorem dX8_init_17 : decode cX8_init 17 = .ok (.return_, 1) := by decide +kernel
theorem dX8_add_0 : decode cX8_add 0 = .ok (.aload_n 0, 1) := by decide +kernel
theorem dX8_add_1 : decode cX8_add 1 = .ok (.getfield 15, 3) := by decide +kernel
theorem dX8_add_4 : decode cX8_add 4 = .ok (.bipush 8, 2) := by decide +kernel
theorem dX8_add_6 : decode cX8_add 6 = .ok (.if_icmp .ge 23, 3) := by decide +kernel
theorem dX8_add_9 : decode cX8_add 9 = .ok (.aload_n 0, 1) := by decide +kernel
theorem dX8_add_10 : decode cX8_add 10 = .ok (.getfield 9, 3) := by decide +kernel
theorem dX8_add_13 : decode cX8_add 13 = .ok (.aload_n 0, 1) := by decide +kernel
theorem dX8_add_14 : decode cX8_add 14 = .ok (.getfield 15, 3) := by decide +kernel
theorem dX8_add_17 : decode cX8_add 17 = .ok (.iload_n 1, 1) := by decide +kernel
theorem dX8_add_18 : decode cX8_add 18 = .ok (.iastore, 1) := by decide +kernel
theorem dX8_add_19 : decode cX8_add 19 = .ok (.aload_n 0, 1) := by decide +kernel
theorem dX8_add_20 : decode cX8_add 20 = .ok (.dup, 1) := by decide +kernel
theorem dX8_add_21 : decode cX8_add 21 = .ok (.getfield 15, 3) := by decide +kernel
theorem dX8_add_24 : decode cX8_add 24 = .ok (.iconst 1, 1) := by decide +kernel
theorem dX8_add_25 : decode cX8_add 25 = .ok (.iadd, 1) := by decide +kernel
theorem dX8_add_26 : decode cX8_add 26 = .ok (.putfield 15, 3) := by decide +kernel
theorem dX8_add_29 : decode cX8_add 29 = .ok (.aload_n 0, 1) := by decide +kernel
theorem dX8_add_30 : decode cX8_add 30 = .ok (.getfield 15, 3) := by decide +kernel
theorem dX8_add_33 : decode cX8_add 33 = .ok (.ireturn, 1) := by decide +kernel
set_option maxRecDepth 20000 in
theorem ggX8_millionths_X8_guessWeight : GoodIn wsX8_millionths wsX8_guessWeight := goodIn_r _ [7, 1, 8, 9, 10, 11, 12, 13, 14, 15, 16, 17, 18, 19, 20, 21, 22, 23, 24, 25, 26, 27, 28, 29, 30, 31, 32, 33] (by decide +kernel) (by decide +kernel)
set_option maxRecDepth 20000 in
theorem gX8_millionths_X8_guessWeight : GoodIn wsX8_millionths (wsV RX8 19 RX8 yX8_guessWeight wsX8_guessWeight) := goodIn_app (goodIn_of _ (by decide +kernel)) ggX8_millionths_X8_guessWeight
theorem dX8_millionths_0 : decode cX8_millionths 0 = .ok (.aload_n 0, 1) := by decide +kernel
theorem dX8_millionths_1 : decode cX8_millionths 1 = .ok (.aload_n 1, 1) := by decide +kernel
theorem dX8_millionths_2 : decode cX8_millionths 2 = .ok (.iconst (-1), 1) := by decide +kernel
theorem dX8_millionths_3 : decode cX8_millionths 3 = .ok (.invokevirtual 19, 3) := by decide +kernel
theorem dX8_millionths_6 : decode cX8_millionths 6 = .ok (.lstore_n 3, 1) := by decide +kernel
theorem dX8_millionths_7 : decode cX8_millionths 7 = .ok (.iconst 0, 1) := by decide +kernel
theorem dX8_millionths_8 : decode cX8_millionths 8 = .ok (.istore 5, 2) := by decide +kernel
theorem dX8_millionths_10 : decode cX8_millionths 10 = .ok (.iload 5, 2) := by decide +kernel
theorem dX8_millionths_12 : decode cX8_millionths 12 = .ok (.aload_n 1, 1) := by decide +kernel
theorem dX8_millionths_13 : decode cX8_millionths 13 = .ok (.getfield 23, 3) := by decide +kernel
theorem dX8_millionths_16 : decode cX8_millionths 16 = .ok (.if_icmp .ge 19, 3) := by decide +kernel
theorem dX8_millionths_19 : decode cX8_millionths 19 = .ok (.lload_n 3, 1) := by decide +kernel
theorem dX8_millionths_20 : decode cX8_millionths 20 = .ok (.aload_n 0, 1) := by decide +kernel
theorem dX8_millionths_21 : decode cX8_millionths 21 = .ok (.aload_n 1, 1) := by decide +kernel
theorem dX8_millionths_22 : decode cX8_millionths 22 = .ok (.iload 5, 2) := by decide +kernel
theorem dX8_millionths_24 : decode cX8_millionths 24 = .ok (.invokevirtual 19, 3) := by decide +kernel
theorem dX8_millionths_27 : decode cX8_millionths 27 = .ok (.ladd, 1) := by decide +kernel
theorem dX8_millionths_28 : decode cX8_millionths 28 = .ok (.lstore_n 3, 1) := by decide +kernel
theorem dX8_millionths_29 : decode cX8_millionths 29 = .ok (.iinc 5 1, 3) := by decide +kernel
theorem dX8_millionths_32 : decode cX8_millionths 32 = .ok (.goto (-22), 3) := by decide +kernel
theorem dX8_millionths_35 : decode cX8_millionths 35 = .ok (.lload_n 3, 1) := by decide +kernel
theorem dX8_millionths_36 : decode cX8_millionths 36 = .ok (.lconst 1, 1) := by decide +kernel
theorem dX8_millionths_37 : decode cX8_millionths 37 = .ok (.lcmp, 1) := by decide +kernel
theorem dX8_millionths_38 : decode cX8_millionths 38 = .ok (.ifCond .ge 5, 3) := by decide +kernel
theorem dX8_millionths_41 : decode cX8_millionths 41 = .ok (.iconst 0, 1) := by decide +kernel
theorem dX8_millionths_42 : decode cX8_millionths 42 = .ok (.ireturn, 1) := by decide +kernel
theorem dX8_millionths_43 : decode cX8_millionths 43 = .ok (.aload_n 0, 1) := by decide +kernel
theorem dX8_millionths_44 : decode cX8_millionths 44 = .ok (.aload_n 1, 1) := by decide +kernel
theorem dX8_millionths_45 : decode cX8_millionths 45 = .ok (.iload_n 2, 1) := by decide +kernel
theorem dX8_millionths_46 : decode cX8_millionths 46 = .ok (.invokevirtual 19, 3) := by decide +kernel
theorem dX8_millionths_49 : decode cX8_millionths 49 = .ok (.ldc2_w 28, 3) := by decide +kernel
theorem dX8_millionths_52 : decode cX8_millionths 52 = .ok (.lmul, 1) := by decide +kernel
theorem dX8_millionths_53 : decode cX8_millionths 53 = .ok (.lload_n 3, 1) := by decide +kernel
theorem dX8_millionths_54 : decode cX8_millionths 54 = .ok (.ldiv, 1) := by decide +kernel
theorem dX8_millionths_55 : decode cX8_millionths 55 = .ok (.l2i, 1) := by decide +kernel
theorem dX8_millionths_56 : decode cX8_millionths 56 = .ok (.ireturn, 1) := by decide +kernel
set_option maxRecDepth 20000 in
theorem ggX8_heaviest_X8_guessWeight : GoodIn wsX8_heaviest wsX8_guessWeight := goodIn_r _ [7, 2, 8, 9, 10, 11, 12, 13, 14, 15, 16, 17, 18, 19, 20, 21, 22, 23, 24, 25, 26, 27, 28, 29, 30, 31, 32, 33] (by decide +kernel) (by decide +kernel)
set_option maxRecDepth 20000 in
theorem gX8_heaviest_X8_guessWeight : GoodIn wsX8_heaviest (wsV RX8 19 RX8 yX8_guessWeight wsX8_guessWeight) := goodIn_app (goodIn_of _ (by decide +kernel)) ggX8_heaviest_X8_guessWeight
theorem dX8_heaviest_0 : decode cX8_heaviest 0 = .ok (.iconst (-1), 1) := by decide +kernel
theorem dX8_heaviest_1 : decode cX8_heaviest 1 = .ok (.istore_n 2, 1) := by decide +kernel
theorem dX8_heaviest_2 : decode cX8_heaviest 2 = .ok (.ldc2_w 30, 3) := by decide +kernel
theorem dX8_heaviest_5 : decode cX8_heaviest 5 = .ok (.lstore_n 3, 1) := by decide +kernel
theorem dX8_heaviest_6 : decode cX8_heaviest 6 = .ok (.iconst 0, 1) := by decide +kernel
theorem dX8_heaviest_7 : decode cX8_heaviest 7 = .ok (.istore 5, 2) := by decide +kernel
theorem dX8_heaviest_9 : decode cX8_heaviest 9 = .ok (.iload 5, 2) := by decide +kernel
theorem dX8_heaviest_11 : decode cX8_heaviest 11 = .ok (.aload_n 1, 1) := by decide +kernel
theorem dX8_heaviest_12 : decode cX8_heaviest 12 = .ok (.getfield 23, 3) := by decide +kernel
theorem dX8_heaviest_15 : decode cX8_heaviest 15 = .ok (.if_icmp .ge 31, 3) := by decide +kernel
theorem dX8_heaviest_18 : decode cX8_heaviest 18 = .ok (.aload_n 0, 1) := by decide +kernel
theorem dX8_heaviest_19 : decode cX8_heaviest 19 = .ok (.aload_n 1, 1) := by decide +kernel
theorem dX8_heaviest_20 : decode cX8_heaviest 20 = .ok (.iload 5, 2) := by decide +kernel
theorem dX8_heaviest_22 : decode cX8_heaviest 22 = .ok (.invokevirtual 19, 3) := by decide +kernel
theorem dX8_heaviest_25 : decode cX8_heaviest 25 = .ok (.lstore 6, 2) := by decide +kernel
theorem dX8_heaviest_27 : decode cX8_heaviest 27 = .ok (.lload 6, 2) := by decide +kernel
theorem dX8_heaviest_29 : decode cX8_heaviest 29 = .ok (.lload_n 3, 1) := by decide +kernel
theorem dX8_heaviest_30 : decode cX8_heaviest 30 = .ok (.lcmp, 1) := by decide +kernel
theorem dX8_heaviest_31 : decode cX8_heaviest 31 = .ok (.ifCond .le 9, 3) := by decide +kernel
theorem dX8_heaviest_34 : decode cX8_heaviest 34 = .ok (.iload 5, 2) := by decide +kernel
theorem dX8_heaviest_36 : decode cX8_heaviest 36 = .ok (.istore_n 2, 1) := by decide +kernel
theorem dX8_heaviest_37 : decode cX8_heaviest 37 = .ok (.lload 6, 2) := by decide +kernel
theorem dX8_heaviest_39 : decode cX8_heaviest 39 = .ok (.lstore_n 3, 1) := by decide +kernel
theorem dX8_heaviest_40 : decode cX8_heaviest 40 = .ok (.iinc 5 1, 3) := by decide +kernel
theorem dX8_heaviest_43 : decode cX8_heaviest 43 = .ok (.goto (-34), 3) := by decide +kernel
theorem dX8_heaviest_46 : decode cX8_heaviest 46 = .ok (.aload_n 0, 1) := by decide +kernel
theorem dX8_heaviest_47 : decode cX8_heaviest 47 = .ok (.aload_n 1, 1) := by decide +kernel
theorem dX8_heaviest_48 : decode cX8_heaviest 48 = .ok (.iconst (-1), 1) := by decide +kernel
theorem dX8_heaviest_49 : decode cX8_heaviest 49 = .ok (.invokevirtual 19, 3) := by decide +kernel
theorem dX8_heaviest_52 : decode cX8_heaviest 52 = .ok (.lload_n 3, 1) := by decide +kernel
theorem dX8_heaviest_53 : decode cX8_heaviest 53 = .ok (.lcmp, 1) := by decide +kernel
theorem dX8_heaviest_54 : decode cX8_heaviest 54 = .ok (.ifCond .le 7, 3) := by decide +kernel
theorem dX8_heaviest_57 : decode cX8_heaviest 57 = .ok (.iconst (-1), 1) := by decide +kernel
theorem dX8_heaviest_58 : decode cX8_heaviest 58 = .ok (.goto 4, 3) := by decide +kernel
theorem dX8_heaviest_61 : decode cX8_heaviest 61 = .ok (.iload_n 2, 1) := by decide +kernel
theorem dX8_heaviest_62 : decode cX8_heaviest 62 = .ok (.ireturn, 1) := by decide +kernel
set_option maxRecDepth 20000 in
theorem ggX8_guessWeight_X7_everyTicket : GoodIn wsX8_guessWeight wsX7_everyTicket := goodIn_r _ [10, 11, 20, 21, 22, 23, 24, 25] (by decide +kernel) (by decide +kernel)
set_option maxRecDepth 20000 in
theorem gX8_guessWeight_X7_everyTicket : GoodIn wsX8_guessWeight (wsV RX8 32 RX7 yX7_everyTicket wsX7_everyTicket) := goodIn_app (goodIn_of _ (by decide +kernel)) ggX8_guessWeight_X7_everyTicket
set_option maxRecDepth 20000 in
theorem ggX8_guessWeight_X7_weightOf : GoodIn wsX8_guessWeight wsX7_weightOf := goodIn_r _ [15, 11, 16, 17, 18, 19, 20, 21, 22, 23, 24, 25] (by decide +kernel) (by decide +kernel)
set_option maxRecDepth 20000 in
theorem gX8_guessWeight_X7_weightOf : GoodIn wsX8_guessWeight (wsV RX8 36 RX7 yX7_weightOf wsX7_weightOf) := goodIn_app (goodIn_of _ (by decide +kernel)) ggX8_guessWeight_X7_weightOf
theorem dX8_guessWeight_0 : decode cX8_guessWeight 0 = .ok (.iload_n 2, 1) := by decide +kernel
theorem dX8_guessWeight_1 : decode cX8_guessWeight 1 = .ok (.ifCond .lt 15, 3) := by decide +kernel
theorem dX8_guessWeight_4 : decode cX8_guessWeight 4 = .ok (.iload_n 2, 1) := by decide +kernel
theorem dX8_guessWeight_5 : decode cX8_guessWeight 5 = .ok (.aload_n 1, 1) := by decide +kernel
theorem dX8_guessWeight_6 : decode cX8_guessWeight 6 = .ok (.getfield 23, 3) := by decide +kernel
theorem dX8_guessWeight_9 : decode cX8_guessWeight 9 = .ok (.if_icmp .ge 7, 3) := by decide +kernel
theorem dX8_guessWeight_12 : decode cX8_guessWeight 12 = .ok (.iconst 1, 1) := by decide +kernel
theorem dX8_guessWeight_13 : decode cX8_guessWeight 13 = .ok (.goto 4, 3) := by decide +kernel
theorem dX8_guessWeight_16 : decode cX8_guessWeight 16 = .ok (.iconst 0, 1) := by decide +kernel
theorem dX8_guessWeight_17 : decode cX8_guessWeight 17 = .ok (.istore_n 3, 1) := by decide +kernel
theorem dX8_guessWeight_18 : decode cX8_guessWeight 18 = .ok (.aload_n 1, 1) := by decide +kernel
theorem dX8_guessWeight_19 : decode cX8_guessWeight 19 = .ok (.aload_n 1, 1) := by decide +kernel
theorem dX8_guessWeight_20 : decode cX8_guessWeight 20 = .ok (.invokevirtual 32, 3) := by decide +kernel
theorem dX8_guessWeight_23 : decode cX8_guessWeight 23 = .ok (.invokevirtual 36, 3) := by decide +kernel
theorem dX8_guessWeight_26 : decode cX8_guessWeight 26 = .ok (.iload_n 3, 1) := by decide +kernel
theorem dX8_guessWeight_27 : decode cX8_guessWeight 27 = .ok (.ifCond .eq 12, 3) := by decide +kernel
theorem dX8_guessWeight_30 : decode cX8_guessWeight 30 = .ok (.aload_n 1, 1) := by decide +kernel
theorem dX8_guessWeight_31 : decode cX8_guessWeight 31 = .ok (.getfield 40, 3) := by decide +kernel
theorem dX8_guessWeight_34 : decode cX8_guessWeight 34 = .ok (.iload_n 2, 1) := by decide +kernel
theorem dX8_guessWeight_35 : decode cX8_guessWeight 35 = .ok (.iaload, 1) := by decide +kernel
theorem dX8_guessWeight_36 : decode cX8_guessWeight 36 = .ok (.goto 4, 3) := by decide +kernel
theorem dX8_guessWeight_39 : decode cX8_guessWeight 39 = .ok (.iconst 0, 1) := by decide +kernel
theorem dX8_guessWeight_40 : decode cX8_guessWeight 40 = .ok (.iadd, 1) := by decide +kernel
theorem dX8_guessWeight_41 : decode cX8_guessWeight 41 = .ok (.istore 4, 2) := by decide +kernel
theorem dX8_guessWeight_43 : decode cX8_guessWeight 43 = .ok (.ldc2_w 43, 3) := by decide +kernel
theorem dX8_guessWeight_46 : decode cX8_guessWeight 46 = .ok (.lstore 5, 2) := by decide +kernel
theorem dX8_guessWeight_48 : decode cX8_guessWeight 48 = .ok (.iconst 0, 1) := by decide +kernel
theorem dX8_guessWeight_49 : decode cX8_guessWeight 49 = .ok (.istore 7, 2) := by decide +kernel
theorem dX8_guessWeight_51 : decode cX8_guessWeight 51 = .ok (.iload 7, 2) := by decide +kernel
theorem dX8_guessWeight_53 : decode cX8_guessWeight 53 = .ok (.aload_n 0, 1) := by decide +kernel
theorem dX8_guessWeight_54 : decode cX8_guessWeight 54 = .ok (.getfield 15, 3) := by decide +kernel
theorem dX8_guessWeight_57 : decode cX8_guessWeight 57 = .ok (.if_icmp .ge 58, 3) := by decide +kernel
theorem dX8_guessWeight_60 : decode cX8_guessWeight 60 = .ok (.iload 4, 2) := by decide +kernel
theorem dX8_guessWeight_62 : decode cX8_guessWeight 62 = .ok (.ifCond .le 53, 3) := by decide +kernel
theorem dX8_guessWeight_65 : decode cX8_guessWeight 65 = .ok (.aload_n 1, 1) := by decide +kernel
theorem dX8_guessWeight_66 : decode cX8_guessWeight 66 = .ok (.getfield 40, 3) := by decide +kernel
theorem dX8_guessWeight_69 : decode cX8_guessWeight 69 = .ok (.aload_n 0, 1) := by decide +kernel
theorem dX8_guessWeight_70 : decode cX8_guessWeight 70 = .ok (.getfield 9, 3) := by decide +kernel
theorem dX8_guessWeight_73 : decode cX8_guessWeight 73 = .ok (.iload 7, 2) := by decide +kernel
theorem dX8_guessWeight_75 : decode cX8_guessWeight 75 = .ok (.iaload, 1) := by decide +kernel
theorem dX8_guessWeight_76 : decode cX8_guessWeight 76 = .ok (.iaload, 1) := by decide +kernel
theorem dX8_guessWeight_77 : decode cX8_guessWeight 77 = .ok (.istore 8, 2) := by decide +kernel
theorem dX8_guessWeight_79 : decode cX8_guessWeight 79 = .ok (.lload 5, 2) := by decide +kernel
theorem dX8_guessWeight_81 : decode cX8_guessWeight 81 = .ok (.aload_n 0, 1) := by decide +kernel
theorem dX8_guessWeight_82 : decode cX8_guessWeight 82 = .ok (.getfield 9, 3) := by decide +kernel
theorem dX8_guessWeight_85 : decode cX8_guessWeight 85 = .ok (.iload 7, 2) := by decide +kernel
theorem dX8_guessWeight_87 : decode cX8_guessWeight 87 = .ok (.iaload, 1) := by decide +kernel
theorem dX8_guessWeight_88 : decode cX8_guessWeight 88 = .ok (.iload_n 2, 1) := by decide +kernel
theorem dX8_guessWeight_89 : decode cX8_guessWeight 89 = .ok (.if_icmp .ne 10, 3) := by decide +kernel
theorem dX8_guessWeight_92 : decode cX8_guessWeight 92 = .ok (.iconst 2, 1) := by decide +kernel
theorem dX8_guessWeight_93 : decode cX8_guessWeight 93 = .ok (.iload 8, 2) := by decide +kernel
theorem dX8_guessWeight_95 : decode cX8_guessWeight 95 = .ok (.imul, 1) := by decide +kernel
theorem dX8_guessWeight_96 : decode cX8_guessWeight 96 = .ok (.goto 5, 3) := by decide +kernel
theorem dX8_guessWeight_99 : decode cX8_guessWeight 99 = .ok (.iload 8, 2) := by decide +kernel
theorem dX8_guessWeight_101 : decode cX8_guessWeight 101 = .ok (.i2l, 1) := by decide +kernel
theorem dX8_guessWeight_102 : decode cX8_guessWeight 102 = .ok (.lmul, 1) := by decide +kernel
theorem dX8_guessWeight_103 : decode cX8_guessWeight 103 = .ok (.iload 4, 2) := by decide +kernel
theorem dX8_guessWeight_105 : decode cX8_guessWeight 105 = .ok (.i2l, 1) := by decide +kernel
theorem dX8_guessWeight_106 : decode cX8_guessWeight 106 = .ok (.ldiv, 1) := by decide +kernel
theorem dX8_guessWeight_107 : decode cX8_guessWeight 107 = .ok (.lstore 5, 2) := by decide +kernel
theorem dX8_guessWeight_109 : decode cX8_guessWeight 109 = .ok (.iinc 7 1, 3) := by decide +kernel
theorem dX8_guessWeight_112 : decode cX8_guessWeight 112 = .ok (.goto (-61), 3) := by decide +kernel
theorem dX8_guessWeight_115 : decode cX8_guessWeight 115 = .ok (.lload 5, 2) := by decide +kernel
theorem dX8_guessWeight_117 : decode cX8_guessWeight 117 = .ok (.lreturn, 1) := by decide +kernel
theorem dX9_init_0 : decode cX9_init 0 = .ok (.aload_n 0, 1) := by decide +kernel
theorem dX9_init_1 : decode cX9_init 1 = .ok (.invokespecial 3, 3) := by decide +kernel
theorem dX9_init_4 : decode cX9_init 4 = .ok (.aload_n 0, 1) := by decide +kernel
theorem dX9_init_5 : decode cX9_init 5 = .ok (.bipush 6, 2) := by decide +kernel
theorem dX9_init_7 : decode cX9_init 7 = .ok (.newarray .int, 2) := by decide +kernel
theorem dX9_init_9 : decode cX9_init 9 = .ok (.putfield 9, 3) := by decide +kernel
theorem dX9_init_12 : decode cX9_init 12 = .ok (.aload_n 0, 1) := by decide +kernel
theorem dX9_init_13 : decode cX9_init 13 = .ok (.bipush 64, 2) := by decide +kernel
theorem dX9_init_15 : decode cX9_init 15 = .ok (.newarray .int, 2) := by decide +kernel
theorem dX9_init_17 : decode cX9_init 17 = .ok (.putfield 15, 3) := by decide +kernel
theorem dX9_init_20 : decode cX9_init 20 = .ok (.aload_n 0, 1) := by decide +kernel
theorem dX9_init_21 : decode cX9_init 21 = .ok (.bipush 6, 2) := by decide +kernel
theorem dX9_init_23 : decode cX9_init 23 = .ok (.newarray .int, 2) := by decide +kernel
theorem dX9_init_25 : decode cX9_init 25 = .ok (.putfield 18, 3) := by decide +kernel
theorem dX9_init_28 : decode cX9_init 28 = .ok (.aload_n 0, 1) := by decide +kernel
theorem dX9_init_29 : decode cX9_init 29 = .ok (.iconst 0, 1) := by decide +kernel
theorem dX9_init_30 : decode cX9_init 30 = .ok (.putfield 21, 3) := by decide +kernel
theorem dX9_init_33 : decode cX9_init 33 = .ok (.return_, 1) := by decide +kernel
set_option maxRecDepth 20000 in
theorem ggX9_match_X9_fittingFor : GoodIn wsX9_match wsX9_fittingFor := goodIn_r _ [8, 9, 10, 1, 11, 12, 13, 14, 41, 42, 43, 44, 45, 46, 51, 52, 53, 54, 55, 56, 57, 58] (by decide +kernel) (by decide +kernel)
set_option maxRecDepth 20000 in
theorem gX9_match_X9_fittingFor : GoodIn wsX9_match (va_wsS RX9 30 yX9_fittingFor wsX9_fittingFor) := goodIn_app (goodIn_of _ (by decide +kernel)) ggX9_match_X9_fittingFor
set_option maxRecDepth 20000 in
theorem ggX9_match_X9_mostAmong : GoodIn wsX9_match wsX9_mostAmong := goodIn_r _ [18, 3, 2, 19, 20, 13, 21, 22, 23, 7, 24, 25, 26, 27, 47, 48, 49, 50] (by decide +kernel) (by decide +kernel)
set_option maxRecDepth 20000 in
theorem gX9_match_X9_mostAmong : GoodIn wsX9_match (wsV RX9 34 RX9 yX9_mostAmong wsX9_mostAmong) := goodIn_app (goodIn_of _ (by decide +kernel)) ggX9_match_X9_mostAmong
set_option maxRecDepth 20000 in
theorem ggX9_match_X9_choose : GoodIn wsX9_match wsX9_choose := goodIn_r _ [31, 32, 3, 33, 34, 35, 36, 25, 26, 27, 37, 38, 39, 7, 40, 2, 47, 48, 49, 50] (by decide +kernel) (by decide +kernel)
set_option maxRecDepth 20000 in
theorem gX9_match_X9_choose : GoodIn wsX9_match (wsV RX9 38 RX9 yX9_choose wsX9_choose) := goodIn_app (goodIn_of _ (by decide +kernel)) ggX9_match_X9_choose
theorem dX9_match_0 : decode cX9_match 0 = .ok (.iconst 0, 1) := by decide +kernel
theorem dX9_match_1 : decode cX9_match 1 = .ok (.istore 4, 2) := by decide +kernel
theorem dX9_match_3 : decode cX9_match 3 = .ok (.iload 4, 2) := by decide +kernel
theorem dX9_match_5 : decode cX9_match 5 = .ok (.aload_n 1, 1) := by decide +kernel
theorem dX9_match_6 : decode cX9_match 6 = .ok (.getfield 25, 3) := by decide +kernel
theorem dX9_match_9 : decode cX9_match 9 = .ok (.if_icmp .ge 24, 3) := by decide +kernel
theorem dX9_match_12 : decode cX9_match 12 = .ok (.aload_n 0, 1) := by decide +kernel
theorem dX9_match_13 : decode cX9_match 13 = .ok (.getfield 9, 3) := by decide +kernel
theorem dX9_match_16 : decode cX9_match 16 = .ok (.iload 4, 2) := by decide +kernel
theorem dX9_match_18 : decode cX9_match 18 = .ok (.aload_n 1, 1) := by decide +kernel
theorem dX9_match_19 : decode cX9_match 19 = .ok (.aload_n 2, 1) := by decide +kernel
theorem dX9_match_20 : decode cX9_match 20 = .ok (.iload 4, 2) := by decide +kernel
theorem dX9_match_22 : decode cX9_match 22 = .ok (.iload_n 3, 1) := by decide +kernel
theorem dX9_match_23 : decode cX9_match 23 = .ok (.invokestatic 30, 3) := by decide +kernel
theorem dX9_match_26 : decode cX9_match 26 = .ok (.iastore, 1) := by decide +kernel
theorem dX9_match_27 : decode cX9_match 27 = .ok (.iinc 4 1, 3) := by decide +kernel
theorem dX9_match_30 : decode cX9_match 30 = .ok (.goto (-27), 3) := by decide +kernel
theorem dX9_match_33 : decode cX9_match 33 = .ok (.iconst 1, 1) := by decide +kernel
theorem dX9_match_34 : decode cX9_match 34 = .ok (.aload_n 1, 1) := by decide +kernel
theorem dX9_match_35 : decode cX9_match 35 = .ok (.getfield 25, 3) := by decide +kernel
theorem dX9_match_38 : decode cX9_match 38 = .ok (.ishl, 1) := by decide +kernel
theorem dX9_match_39 : decode cX9_match 39 = .ok (.iconst 1, 1) := by decide +kernel
theorem dX9_match_40 : decode cX9_match 40 = .ok (.isub, 1) := by decide +kernel
theorem dX9_match_41 : decode cX9_match 41 = .ok (.istore 4, 2) := by decide +kernel
theorem dX9_match_43 : decode cX9_match 43 = .ok (.iconst 0, 1) := by decide +kernel
theorem dX9_match_44 : decode cX9_match 44 = .ok (.istore 5, 2) := by decide +kernel
theorem dX9_match_46 : decode cX9_match 46 = .ok (.iload 5, 2) := by decide +kernel
theorem dX9_match_48 : decode cX9_match 48 = .ok (.iload 4, 2) := by decide +kernel
theorem dX9_match_50 : decode cX9_match 50 = .ok (.if_icmp .gt 26, 3) := by decide +kernel
theorem dX9_match_53 : decode cX9_match 53 = .ok (.aload_n 0, 1) := by decide +kernel
theorem dX9_match_54 : decode cX9_match 54 = .ok (.getfield 15, 3) := by decide +kernel
theorem dX9_match_57 : decode cX9_match 57 = .ok (.iload 5, 2) := by decide +kernel
theorem dX9_match_59 : decode cX9_match 59 = .ok (.aload_n 0, 1) := by decide +kernel
theorem dX9_match_60 : decode cX9_match 60 = .ok (.iload 5, 2) := by decide +kernel
theorem dX9_match_62 : decode cX9_match 62 = .ok (.aload_n 1, 1) := by decide +kernel
theorem dX9_match_63 : decode cX9_match 63 = .ok (.getfield 25, 3) := by decide +kernel
theorem dX9_match_66 : decode cX9_match 66 = .ok (.invokevirtual 34, 3) := by decide +kernel
theorem dX9_match_69 : decode cX9_match 69 = .ok (.iastore, 1) := by decide +kernel
theorem dX9_match_70 : decode cX9_match 70 = .ok (.iinc 5 1, 3) := by decide +kernel
theorem dX9_match_73 : decode cX9_match 73 = .ok (.goto (-27), 3) := by decide +kernel
theorem dX9_match_76 : decode cX9_match 76 = .ok (.aload_n 0, 1) := by decide +kernel
theorem dX9_match_77 : decode cX9_match 77 = .ok (.aload_n 0, 1) := by decide +kernel
theorem dX9_match_78 : decode cX9_match 78 = .ok (.getfield 15, 3) := by decide +kernel
theorem dX9_match_81 : decode cX9_match 81 = .ok (.iload 4, 2) := by decide +kernel
theorem dX9_match_83 : decode cX9_match 83 = .ok (.iaload, 1) := by decide +kernel
theorem dX9_match_84 : decode cX9_match 84 = .ok (.putfield 21, 3) := by decide +kernel
theorem dX9_match_87 : decode cX9_match 87 = .ok (.aload_n 0, 1) := by decide +kernel
theorem dX9_match_88 : decode cX9_match 88 = .ok (.iload 4, 2) := by decide +kernel
theorem dX9_match_90 : decode cX9_match 90 = .ok (.aload_n 1, 1) := by decide +kernel
theorem dX9_match_91 : decode cX9_match 91 = .ok (.getfield 25, 3) := by decide +kernel
theorem dX9_match_94 : decode cX9_match 94 = .ok (.invokevirtual 38, 3) := by decide +kernel
theorem dX9_match_97 : decode cX9_match 97 = .ok (.return_, 1) := by decide +kernel
theorem dX9_fittingFor_0 : decode cX9_fittingFor 0 = .ok (.iconst 0, 1) := by decide +kernel
theorem dX9_fittingFor_1 : decode cX9_fittingFor 1 = .ok (.istore 4, 2) := by decide +kernel
theorem dX9_fittingFor_3 : decode cX9_fittingFor 3 = .ok (.aload_n 0, 1) := by decide +kernel
theorem dX9_fittingFor_4 : decode cX9_fittingFor 4 = .ok (.getfield 42, 3) := by decide +kernel
theorem dX9_fittingFor_7 : decode cX9_fittingFor 7 = .ok (.iconst 2, 1) := by decide +kernel
theorem dX9_fittingFor_8 : decode cX9_fittingFor 8 = .ok (.iaload, 1) := by decide +kernel
theorem dX9_fittingFor_9 : decode cX9_fittingFor 9 = .ok (.istore 5, 2) := by decide +kernel
theorem dX9_fittingFor_11 : decode cX9_fittingFor 11 = .ok (.aload_n 1, 1) := by decide +kernel
theorem dX9_fittingFor_12 : decode cX9_fittingFor 12 = .ok (.getfield 45, 3) := by decide +kernel
theorem dX9_fittingFor_15 : decode cX9_fittingFor 15 = .ok (.iload_n 2, 1) := by decide +kernel
theorem dX9_fittingFor_16 : decode cX9_fittingFor 16 = .ok (.iaload, 1) := by decide +kernel
theorem dX9_fittingFor_17 : decode cX9_fittingFor 17 = .ok (.iload 5, 2) := by decide +kernel
theorem dX9_fittingFor_19 : decode cX9_fittingFor 19 = .ok (.if_icmp .ge 6, 3) := by decide +kernel
theorem dX9_fittingFor_22 : decode cX9_fittingFor 22 = .ok (.iload 4, 2) := by decide +kernel
theorem dX9_fittingFor_24 : decode cX9_fittingFor 24 = .ok (.ireturn, 1) := by decide +kernel
theorem dX9_fittingFor_25 : decode cX9_fittingFor 25 = .ok (.iconst 0, 1) := by decide +kernel
theorem dX9_fittingFor_26 : decode cX9_fittingFor 26 = .ok (.istore 6, 2) := by decide +kernel
theorem dX9_fittingFor_28 : decode cX9_fittingFor 28 = .ok (.iload 6, 2) := by decide +kernel
theorem dX9_fittingFor_30 : decode cX9_fittingFor 30 = .ok (.aload_n 0, 1) := by decide +kernel
theorem dX9_fittingFor_31 : decode cX9_fittingFor 31 = .ok (.getfield 25, 3) := by decide +kernel
theorem dX9_fittingFor_34 : decode cX9_fittingFor 34 = .ok (.if_icmp .ge 69, 3) := by decide +kernel
theorem dX9_fittingFor_37 : decode cX9_fittingFor 37 = .ok (.aload_n 1, 1) := by decide +kernel
theorem dX9_fittingFor_38 : decode cX9_fittingFor 38 = .ok (.getfield 45, 3) := by decide +kernel
theorem dX9_fittingFor_41 : decode cX9_fittingFor 41 = .ok (.iload_n 2, 1) := by decide +kernel
theorem dX9_fittingFor_42 : decode cX9_fittingFor 42 = .ok (.iaload, 1) := by decide +kernel
theorem dX9_fittingFor_43 : decode cX9_fittingFor 43 = .ok (.aload_n 1, 1) := by decide +kernel
theorem dX9_fittingFor_44 : decode cX9_fittingFor 44 = .ok (.getfield 45, 3) := by decide +kernel
theorem dX9_fittingFor_47 : decode cX9_fittingFor 47 = .ok (.iload 6, 2) := by decide +kernel
theorem dX9_fittingFor_49 : decode cX9_fittingFor 49 = .ok (.iaload, 1) := by decide +kernel
theorem dX9_fittingFor_50 : decode cX9_fittingFor 50 = .ok (.isub, 1) := by decide +kernel
theorem dX9_fittingFor_51 : decode cX9_fittingFor 51 = .ok (.invokestatic 50, 3) := by decide +kernel
theorem dX9_fittingFor_54 : decode cX9_fittingFor 54 = .ok (.iload_n 3, 1) := by decide +kernel
theorem dX9_fittingFor_55 : decode cX9_fittingFor 55 = .ok (.if_icmp .gt 7, 3) := by decide +kernel
theorem dX9_fittingFor_58 : decode cX9_fittingFor 58 = .ok (.iconst 1, 1) := by decide +kernel
theorem dX9_fittingFor_59 : decode cX9_fittingFor 59 = .ok (.goto 4, 3) := by decide +kernel
theorem dX9_fittingFor_62 : decode cX9_fittingFor 62 = .ok (.iconst 0, 1) := by decide +kernel
theorem dX9_fittingFor_63 : decode cX9_fittingFor 63 = .ok (.istore 7, 2) := by decide +kernel
theorem dX9_fittingFor_65 : decode cX9_fittingFor 65 = .ok (.iload 6, 2) := by decide +kernel
theorem dX9_fittingFor_67 : decode cX9_fittingFor 67 = .ok (.iload_n 2, 1) := by decide +kernel
theorem dX9_fittingFor_68 : decode cX9_fittingFor 68 = .ok (.if_icmp .eq 29, 3) := by decide +kernel
theorem dX9_fittingFor_71 : decode cX9_fittingFor 71 = .ok (.iload 7, 2) := by decide +kernel
theorem dX9_fittingFor_73 : decode cX9_fittingFor 73 = .ok (.ifCond .eq 24, 3) := by decide +kernel
theorem dX9_fittingFor_76 : decode cX9_fittingFor 76 = .ok (.aload_n 1, 1) := by decide +kernel
theorem dX9_fittingFor_77 : decode cX9_fittingFor 77 = .ok (.getfield 45, 3) := by decide +kernel
theorem dX9_fittingFor_80 : decode cX9_fittingFor 80 = .ok (.iload 6, 2) := by decide +kernel
theorem dX9_fittingFor_82 : decode cX9_fittingFor 82 = .ok (.iaload, 1) := by decide +kernel
theorem dX9_fittingFor_83 : decode cX9_fittingFor 83 = .ok (.iload 5, 2) := by decide +kernel
theorem dX9_fittingFor_85 : decode cX9_fittingFor 85 = .ok (.if_icmp .lt 12, 3) := by decide +kernel
theorem dX9_fittingFor_88 : decode cX9_fittingFor 88 = .ok (.iload 4, 2) := by decide +kernel
theorem dX9_fittingFor_90 : decode cX9_fittingFor 90 = .ok (.iconst 1, 1) := by decide +kernel
theorem dX9_fittingFor_91 : decode cX9_fittingFor 91 = .ok (.iload 6, 2) := by decide +kernel
theorem dX9_fittingFor_93 : decode cX9_fittingFor 93 = .ok (.ishl, 1) := by decide +kernel
theorem dX9_fittingFor_94 : decode cX9_fittingFor 94 = .ok (.ior, 1) := by decide +kernel
theorem dX9_fittingFor_95 : decode cX9_fittingFor 95 = .ok (.istore 4, 2) := by decide +kernel
theorem dX9_fittingFor_97 : decode cX9_fittingFor 97 = .ok (.iinc 6 1, 3) := by decide +kernel
theorem dX9_fittingFor_100 : decode cX9_fittingFor 100 = .ok (.goto (-72), 3) := by decide +kernel
theorem dX9_fittingFor_103 : decode cX9_fittingFor 103 = .ok (.iload 4, 2) := by decide +kernel
theorem dX9_fittingFor_105 : decode cX9_fittingFor 105 = .ok (.ireturn, 1) := by decide +kernel
set_option maxRecDepth 20000 in
theorem ggX9_mostAmong_X9_firstOf : GoodIn wsX9_mostAmong wsX9_firstOf := goodIn_r _ [10, 11, 12, 13] (by decide +kernel) (by decide +kernel)
set_option maxRecDepth 20000 in
theorem gX9_mostAmong_X9_firstOf : GoodIn wsX9_mostAmong (va_wsS RX9 56 yX9_firstOf wsX9_firstOf) := goodIn_app (goodIn_of _ (by decide +kernel)) ggX9_mostAmong_X9_firstOf
set_option maxRecDepth 20000 in
theorem ggX9_mostAmong_X10_holds : GoodIn wsX9_mostAmong wsX10_holds := goodIn_r _ [13] (by decide +kernel) (by decide +kernel)
set_option maxRecDepth 20000 in
theorem gX9_mostAmong_X10_holds_n59 : GoodIn wsX9_mostAmong (wsX10_holds) := ggX9_mostAmong_X10_holds
theorem dX9_mostAmong_0 : decode cX9_mostAmong 0 = .ok (.iload_n 1, 1) := by decide +kernel
theorem dX9_mostAmong_1 : decode cX9_mostAmong 1 = .ok (.iload_n 2, 1) := by decide +kernel
theorem dX9_mostAmong_2 : decode cX9_mostAmong 2 = .ok (.invokestatic 56, 3) := by decide +kernel
theorem dX9_mostAmong_5 : decode cX9_mostAmong 5 = .ok (.istore_n 3, 1) := by decide +kernel
theorem dX9_mostAmong_6 : decode cX9_mostAmong 6 = .ok (.iload_n 3, 1) := by decide +kernel
theorem dX9_mostAmong_7 : decode cX9_mostAmong 7 = .ok (.iconst (-1), 1) := by decide +kernel
theorem dX9_mostAmong_8 : decode cX9_mostAmong 8 = .ok (.if_icmp .ne 5, 3) := by decide +kernel
theorem dX9_mostAmong_11 : decode cX9_mostAmong 11 = .ok (.iconst 0, 1) := by decide +kernel
theorem dX9_mostAmong_12 : decode cX9_mostAmong 12 = .ok (.ireturn, 1) := by decide +kernel
theorem dX9_mostAmong_13 : decode cX9_mostAmong 13 = .ok (.iload_n 1, 1) := by decide +kernel
theorem dX9_mostAmong_14 : decode cX9_mostAmong 14 = .ok (.iconst 1, 1) := by decide +kernel
theorem dX9_mostAmong_15 : decode cX9_mostAmong 15 = .ok (.iload_n 3, 1) := by decide +kernel
theorem dX9_mostAmong_16 : decode cX9_mostAmong 16 = .ok (.ishl, 1) := by decide +kernel
theorem dX9_mostAmong_17 : decode cX9_mostAmong 17 = .ok (.iconst (-1), 1) := by decide +kernel
theorem dX9_mostAmong_18 : decode cX9_mostAmong 18 = .ok (.ixor, 1) := by decide +kernel
theorem dX9_mostAmong_19 : decode cX9_mostAmong 19 = .ok (.iand, 1) := by decide +kernel
theorem dX9_mostAmong_20 : decode cX9_mostAmong 20 = .ok (.istore 4, 2) := by decide +kernel
theorem dX9_mostAmong_22 : decode cX9_mostAmong 22 = .ok (.aload_n 0, 1) := by decide +kernel
theorem dX9_mostAmong_23 : decode cX9_mostAmong 23 = .ok (.getfield 15, 3) := by decide +kernel
theorem dX9_mostAmong_26 : decode cX9_mostAmong 26 = .ok (.iload 4, 2) := by decide +kernel
theorem dX9_mostAmong_28 : decode cX9_mostAmong 28 = .ok (.iaload, 1) := by decide +kernel
theorem dX9_mostAmong_29 : decode cX9_mostAmong 29 = .ok (.istore 5, 2) := by decide +kernel
theorem dX9_mostAmong_31 : decode cX9_mostAmong 31 = .ok (.iload_n 3, 1) := by decide +kernel
theorem dX9_mostAmong_32 : decode cX9_mostAmong 32 = .ok (.iconst 1, 1) := by decide +kernel
theorem dX9_mostAmong_33 : decode cX9_mostAmong 33 = .ok (.iadd, 1) := by decide +kernel
theorem dX9_mostAmong_34 : decode cX9_mostAmong 34 = .ok (.istore 6, 2) := by decide +kernel
theorem dX9_mostAmong_36 : decode cX9_mostAmong 36 = .ok (.iload 6, 2) := by decide +kernel
theorem dX9_mostAmong_38 : decode cX9_mostAmong 38 = .ok (.iload_n 2, 1) := by decide +kernel
theorem dX9_mostAmong_39 : decode cX9_mostAmong 39 = .ok (.if_icmp .ge 49, 3) := by decide +kernel
theorem dX9_mostAmong_42 : decode cX9_mostAmong 42 = .ok (.iload 4, 2) := by decide +kernel
theorem dX9_mostAmong_44 : decode cX9_mostAmong 44 = .ok (.aload_n 0, 1) := by decide +kernel
theorem dX9_mostAmong_45 : decode cX9_mostAmong 45 = .ok (.getfield 9, 3) := by decide +kernel
theorem dX9_mostAmong_48 : decode cX9_mostAmong 48 = .ok (.iload_n 3, 1) := by decide +kernel
theorem dX9_mostAmong_49 : decode cX9_mostAmong 49 = .ok (.iaload, 1) := by decide +kernel
theorem dX9_mostAmong_50 : decode cX9_mostAmong 50 = .ok (.iand, 1) := by decide +kernel
theorem dX9_mostAmong_51 : decode cX9_mostAmong 51 = .ok (.iload 6, 2) := by decide +kernel
theorem dX9_mostAmong_53 : decode cX9_mostAmong 53 = .ok (.invokestatic 59, 3) := by decide +kernel
theorem dX9_mostAmong_56 : decode cX9_mostAmong 56 = .ok (.ifCond .eq 26, 3) := by decide +kernel
theorem dX9_mostAmong_59 : decode cX9_mostAmong 59 = .ok (.iload 5, 2) := by decide +kernel
theorem dX9_mostAmong_61 : decode cX9_mostAmong 61 = .ok (.iconst 1, 1) := by decide +kernel
theorem dX9_mostAmong_62 : decode cX9_mostAmong 62 = .ok (.aload_n 0, 1) := by decide +kernel
theorem dX9_mostAmong_63 : decode cX9_mostAmong 63 = .ok (.getfield 15, 3) := by decide +kernel
theorem dX9_mostAmong_66 : decode cX9_mostAmong 66 = .ok (.iload 4, 2) := by decide +kernel
theorem dX9_mostAmong_68 : decode cX9_mostAmong 68 = .ok (.iconst 1, 1) := by decide +kernel
theorem dX9_mostAmong_69 : decode cX9_mostAmong 69 = .ok (.iload 6, 2) := by decide +kernel
theorem dX9_mostAmong_71 : decode cX9_mostAmong 71 = .ok (.ishl, 1) := by decide +kernel
theorem dX9_mostAmong_72 : decode cX9_mostAmong 72 = .ok (.iconst (-1), 1) := by decide +kernel
theorem dX9_mostAmong_73 : decode cX9_mostAmong 73 = .ok (.ixor, 1) := by decide +kernel
theorem dX9_mostAmong_74 : decode cX9_mostAmong 74 = .ok (.iand, 1) := by decide +kernel
theorem dX9_mostAmong_75 : decode cX9_mostAmong 75 = .ok (.iaload, 1) := by decide +kernel
theorem dX9_mostAmong_76 : decode cX9_mostAmong 76 = .ok (.iadd, 1) := by decide +kernel
theorem dX9_mostAmong_77 : decode cX9_mostAmong 77 = .ok (.invokestatic 63, 3) := by decide +kernel
theorem dX9_mostAmong_80 : decode cX9_mostAmong 80 = .ok (.istore 5, 2) := by decide +kernel
theorem dX9_mostAmong_82 : decode cX9_mostAmong 82 = .ok (.iinc 6 1, 3) := by decide +kernel
theorem dX9_mostAmong_85 : decode cX9_mostAmong 85 = .ok (.goto (-49), 3) := by decide +kernel
theorem dX9_mostAmong_88 : decode cX9_mostAmong 88 = .ok (.iload 5, 2) := by decide +kernel
theorem dX9_mostAmong_90 : decode cX9_mostAmong 90 = .ok (.ireturn, 1) := by decide +kernel
set_option maxRecDepth 20000 in
theorem ggX9_firstOf_X10_holds : GoodIn wsX9_firstOf wsX10_holds := goodIn_r _ [3] (by decide +kernel) (by decide +kernel)
set_option maxRecDepth 20000 in
theorem gX9_firstOf_X10_holds_n59 : GoodIn wsX9_firstOf (wsX10_holds) := ggX9_firstOf_X10_holds
theorem dX9_firstOf_0 : decode cX9_firstOf 0 = .ok (.iconst 0, 1) := by decide +kernel
theorem dX9_firstOf_1 : decode cX9_firstOf 1 = .ok (.istore_n 2, 1) := by decide +kernel
theorem dX9_firstOf_2 : decode cX9_firstOf 2 = .ok (.iload_n 2, 1) := by decide +kernel
theorem dX9_firstOf_3 : decode cX9_firstOf 3 = .ok (.iload_n 1, 1) := by decide +kernel
theorem dX9_firstOf_4 : decode cX9_firstOf 4 = .ok (.if_icmp .ge 19, 3) := by decide +kernel
theorem dX9_firstOf_7 : decode cX9_firstOf 7 = .ok (.iload_n 0, 1) := by decide +kernel
theorem dX9_firstOf_8 : decode cX9_firstOf 8 = .ok (.iload_n 2, 1) := by decide +kernel
theorem dX9_firstOf_9 : decode cX9_firstOf 9 = .ok (.invokestatic 59, 3) := by decide +kernel
theorem dX9_firstOf_12 : decode cX9_firstOf 12 = .ok (.ifCond .eq 5, 3) := by decide +kernel
theorem dX9_firstOf_15 : decode cX9_firstOf 15 = .ok (.iload_n 2, 1) := by decide +kernel
theorem dX9_firstOf_16 : decode cX9_firstOf 16 = .ok (.ireturn, 1) := by decide +kernel
theorem dX9_firstOf_17 : decode cX9_firstOf 17 = .ok (.iinc 2 1, 3) := by decide +kernel
theorem dX9_firstOf_20 : decode cX9_firstOf 20 = .ok (.goto (-18), 3) := by decide +kernel
theorem dX9_firstOf_23 : decode cX9_firstOf 23 = .ok (.iconst (-1), 1) := by decide +kernel
theorem dX9_firstOf_24 : decode cX9_firstOf 24 = .ok (.ireturn, 1) := by decide +kernel
set_option maxRecDepth 20000 in
theorem ggX9_choose_J7_fill_53178 : GoodIn wsX9_choose wsJ7_fill_53178 := goodIn_r _ [6] (by decide +kernel) (by decide +kernel)
set_option maxRecDepth 20000 in
theorem gX9_choose_J7_fill_53178 : GoodIn wsX9_choose (va_wsS RX9 66 yJ7_fill_53178 wsJ7_fill_53178) := goodIn_app (goodIn_of _ (by decide +kernel)) ggX9_choose_J7_fill_53178
set_option maxRecDepth 20000 in
theorem ggX9_choose_X10_holds : GoodIn wsX9_choose wsX10_holds := goodIn_r _ [9] (by decide +kernel) (by decide +kernel)
set_option maxRecDepth 20000 in
theorem gX9_choose_X10_holds_n59 : GoodIn wsX9_choose (wsX10_holds) := ggX9_choose_X10_holds
set_option maxRecDepth 20000 in
theorem ggX9_choose_X9_firstPartner : GoodIn wsX9_choose wsX9_firstPartner := goodIn_r _ [14, 15, 2, 7, 8, 9, 16, 17, 18, 19] (by decide +kernel) (by decide +kernel)
set_option maxRecDepth 20000 in
theorem gX9_choose_X9_firstPartner : GoodIn wsX9_choose (wsV RX9 72 RX9 yX9_firstPartner wsX9_firstPartner) := goodIn_app (goodIn_of _ (by decide +kernel)) ggX9_choose_X9_firstPartner
theorem dX9_choose_0 : decode cX9_choose 0 = .ok (.aload_n 0, 1) := by decide +kernel
theorem dX9_choose_1 : decode cX9_choose 1 = .ok (.getfield 18, 3) := by decide +kernel
theorem dX9_choose_4 : decode cX9_choose 4 = .ok (.iconst (-1), 1) := by decide +kernel
theorem dX9_choose_5 : decode cX9_choose 5 = .ok (.invokestatic 66, 3) := by decide +kernel
theorem dX9_choose_8 : decode cX9_choose 8 = .ok (.iload_n 1, 1) := by decide +kernel
theorem dX9_choose_9 : decode cX9_choose 9 = .ok (.istore_n 3, 1) := by decide +kernel
theorem dX9_choose_10 : decode cX9_choose 10 = .ok (.iconst 0, 1) := by decide +kernel
theorem dX9_choose_11 : decode cX9_choose 11 = .ok (.istore 4, 2) := by decide +kernel
theorem dX9_choose_13 : decode cX9_choose 13 = .ok (.iload 4, 2) := by decide +kernel
theorem dX9_choose_15 : decode cX9_choose 15 = .ok (.iload_n 2, 1) := by decide +kernel
theorem dX9_choose_16 : decode cX9_choose 16 = .ok (.if_icmp .ge 86, 3) := by decide +kernel
theorem dX9_choose_19 : decode cX9_choose 19 = .ok (.iload_n 3, 1) := by decide +kernel
theorem dX9_choose_20 : decode cX9_choose 20 = .ok (.iload 4, 2) := by decide +kernel
theorem dX9_choose_22 : decode cX9_choose 22 = .ok (.invokestatic 59, 3) := by decide +kernel
theorem dX9_choose_25 : decode cX9_choose 25 = .ok (.ifCond .ne 6, 3) := by decide +kernel
theorem dX9_choose_28 : decode cX9_choose 28 = .ok (.goto 68, 3) := by decide +kernel
theorem dX9_choose_31 : decode cX9_choose 31 = .ok (.iload_n 3, 1) := by decide +kernel
theorem dX9_choose_32 : decode cX9_choose 32 = .ok (.iconst 1, 1) := by decide +kernel
theorem dX9_choose_33 : decode cX9_choose 33 = .ok (.iload 4, 2) := by decide +kernel
theorem dX9_choose_35 : decode cX9_choose 35 = .ok (.ishl, 1) := by decide +kernel
theorem dX9_choose_36 : decode cX9_choose 36 = .ok (.iconst (-1), 1) := by decide +kernel
theorem dX9_choose_37 : decode cX9_choose 37 = .ok (.ixor, 1) := by decide +kernel
theorem dX9_choose_38 : decode cX9_choose 38 = .ok (.iand, 1) := by decide +kernel
theorem dX9_choose_39 : decode cX9_choose 39 = .ok (.istore 5, 2) := by decide +kernel
theorem dX9_choose_41 : decode cX9_choose 41 = .ok (.aload_n 0, 1) := by decide +kernel
theorem dX9_choose_42 : decode cX9_choose 42 = .ok (.iload 4, 2) := by decide +kernel
theorem dX9_choose_44 : decode cX9_choose 44 = .ok (.iload 5, 2) := by decide +kernel
theorem dX9_choose_46 : decode cX9_choose 46 = .ok (.aload_n 0, 1) := by decide +kernel
theorem dX9_choose_47 : decode cX9_choose 47 = .ok (.getfield 15, 3) := by decide +kernel
theorem dX9_choose_50 : decode cX9_choose 50 = .ok (.iload_n 3, 1) := by decide +kernel
theorem dX9_choose_51 : decode cX9_choose 51 = .ok (.iaload, 1) := by decide +kernel
theorem dX9_choose_52 : decode cX9_choose 52 = .ok (.iload_n 2, 1) := by decide +kernel
theorem dX9_choose_53 : decode cX9_choose 53 = .ok (.invokevirtual 72, 3) := by decide +kernel
theorem dX9_choose_56 : decode cX9_choose 56 = .ok (.istore 6, 2) := by decide +kernel
theorem dX9_choose_58 : decode cX9_choose 58 = .ok (.iload 6, 2) := by decide +kernel
theorem dX9_choose_60 : decode cX9_choose 60 = .ok (.iconst (-1), 1) := by decide +kernel
theorem dX9_choose_61 : decode cX9_choose 61 = .ok (.if_icmp .eq 32, 3) := by decide +kernel
theorem dX9_choose_64 : decode cX9_choose 64 = .ok (.aload_n 0, 1) := by decide +kernel
theorem dX9_choose_65 : decode cX9_choose 65 = .ok (.getfield 18, 3) := by decide +kernel
theorem dX9_choose_68 : decode cX9_choose 68 = .ok (.iload 4, 2) := by decide +kernel
theorem dX9_choose_70 : decode cX9_choose 70 = .ok (.iload 6, 2) := by decide +kernel
theorem dX9_choose_72 : decode cX9_choose 72 = .ok (.iastore, 1) := by decide +kernel
theorem dX9_choose_73 : decode cX9_choose 73 = .ok (.aload_n 0, 1) := by decide +kernel
theorem dX9_choose_74 : decode cX9_choose 74 = .ok (.getfield 18, 3) := by decide +kernel
theorem dX9_choose_77 : decode cX9_choose 77 = .ok (.iload 6, 2) := by decide +kernel
theorem dX9_choose_79 : decode cX9_choose 79 = .ok (.iload 4, 2) := by decide +kernel
theorem dX9_choose_81 : decode cX9_choose 81 = .ok (.iastore, 1) := by decide +kernel
theorem dX9_choose_82 : decode cX9_choose 82 = .ok (.iload 5, 2) := by decide +kernel
theorem dX9_choose_84 : decode cX9_choose 84 = .ok (.iconst 1, 1) := by decide +kernel
theorem dX9_choose_85 : decode cX9_choose 85 = .ok (.iload 6, 2) := by decide +kernel
theorem dX9_choose_87 : decode cX9_choose 87 = .ok (.ishl, 1) := by decide +kernel
theorem dX9_choose_88 : decode cX9_choose 88 = .ok (.iconst (-1), 1) := by decide +kernel
theorem dX9_choose_89 : decode cX9_choose 89 = .ok (.ixor, 1) := by decide +kernel
theorem dX9_choose_90 : decode cX9_choose 90 = .ok (.iand, 1) := by decide +kernel
theorem dX9_choose_91 : decode cX9_choose 91 = .ok (.istore 5, 2) := by decide +kernel
theorem dX9_choose_93 : decode cX9_choose 93 = .ok (.iload 5, 2) := by decide +kernel
theorem dX9_choose_95 : decode cX9_choose 95 = .ok (.istore_n 3, 1) := by decide +kernel
theorem dX9_choose_96 : decode cX9_choose 96 = .ok (.iinc 4 1, 3) := by decide +kernel
theorem dX9_choose_99 : decode cX9_choose 99 = .ok (.goto (-86), 3) := by decide +kernel
theorem dX9_choose_102 : decode cX9_choose 102 = .ok (.return_, 1) := by decide +kernel
set_option maxRecDepth 20000 in
theorem ggX9_firstPartner_X10_holds : GoodIn wsX9_firstPartner wsX10_holds := goodIn_r _ [5] (by decide +kernel) (by decide +kernel)
set_option maxRecDepth 20000 in
theorem gX9_firstPartner_X10_holds_n59 : GoodIn wsX9_firstPartner (wsX10_holds) := ggX9_firstPartner_X10_holds
theorem dX9_firstPartner_0 : decode cX9_firstPartner 0 = .ok (.iload_n 1, 1) := by decide +kernel
theorem dX9_firstPartner_1 : decode cX9_firstPartner 1 = .ok (.iconst 1, 1) := by decide +kernel
theorem dX9_firstPartner_2 : decode cX9_firstPartner 2 = .ok (.iadd, 1) := by decide +kernel
theorem dX9_firstPartner_3 : decode cX9_firstPartner 3 = .ok (.istore 5, 2) := by decide +kernel
theorem dX9_firstPartner_5 : decode cX9_firstPartner 5 = .ok (.iload 5, 2) := by decide +kernel
theorem dX9_firstPartner_7 : decode cX9_firstPartner 7 = .ok (.iload 4, 2) := by decide +kernel
theorem dX9_firstPartner_9 : decode cX9_firstPartner 9 = .ok (.if_icmp .ge 47, 3) := by decide +kernel
theorem dX9_firstPartner_12 : decode cX9_firstPartner 12 = .ok (.iload_n 2, 1) := by decide +kernel
theorem dX9_firstPartner_13 : decode cX9_firstPartner 13 = .ok (.aload_n 0, 1) := by decide +kernel
theorem dX9_firstPartner_14 : decode cX9_firstPartner 14 = .ok (.getfield 9, 3) := by decide +kernel
theorem dX9_firstPartner_17 : decode cX9_firstPartner 17 = .ok (.iload_n 1, 1) := by decide +kernel
theorem dX9_firstPartner_18 : decode cX9_firstPartner 18 = .ok (.iaload, 1) := by decide +kernel
theorem dX9_firstPartner_19 : decode cX9_firstPartner 19 = .ok (.iand, 1) := by decide +kernel
theorem dX9_firstPartner_20 : decode cX9_firstPartner 20 = .ok (.iload 5, 2) := by decide +kernel
theorem dX9_firstPartner_22 : decode cX9_firstPartner 22 = .ok (.invokestatic 59, 3) := by decide +kernel
theorem dX9_firstPartner_25 : decode cX9_firstPartner 25 = .ok (.ifCond .eq 25, 3) := by decide +kernel
theorem dX9_firstPartner_28 : decode cX9_firstPartner 28 = .ok (.iconst 1, 1) := by decide +kernel
theorem dX9_firstPartner_29 : decode cX9_firstPartner 29 = .ok (.aload_n 0, 1) := by decide +kernel
theorem dX9_firstPartner_30 : decode cX9_firstPartner 30 = .ok (.getfield 15, 3) := by decide +kernel
theorem dX9_firstPartner_33 : decode cX9_firstPartner 33 = .ok (.iload_n 2, 1) := by decide +kernel
theorem dX9_firstPartner_34 : decode cX9_firstPartner 34 = .ok (.iconst 1, 1) := by decide +kernel
theorem dX9_firstPartner_35 : decode cX9_firstPartner 35 = .ok (.iload 5, 2) := by decide +kernel
theorem dX9_firstPartner_37 : decode cX9_firstPartner 37 = .ok (.ishl, 1) := by decide +kernel
theorem dX9_firstPartner_38 : decode cX9_firstPartner 38 = .ok (.iconst (-1), 1) := by decide +kernel
theorem dX9_firstPartner_39 : decode cX9_firstPartner 39 = .ok (.ixor, 1) := by decide +kernel
theorem dX9_firstPartner_40 : decode cX9_firstPartner 40 = .ok (.iand, 1) := by decide +kernel
theorem dX9_firstPartner_41 : decode cX9_firstPartner 41 = .ok (.iaload, 1) := by decide +kernel
theorem dX9_firstPartner_42 : decode cX9_firstPartner 42 = .ok (.iadd, 1) := by decide +kernel
theorem dX9_firstPartner_43 : decode cX9_firstPartner 43 = .ok (.iload_n 3, 1) := by decide +kernel
theorem dX9_firstPartner_44 : decode cX9_firstPartner 44 = .ok (.if_icmp .ne 6, 3) := by decide +kernel
theorem dX9_firstPartner_47 : decode cX9_firstPartner 47 = .ok (.iload 5, 2) := by decide +kernel
theorem dX9_firstPartner_49 : decode cX9_firstPartner 49 = .ok (.ireturn, 1) := by decide +kernel
theorem dX9_firstPartner_50 : decode cX9_firstPartner 50 = .ok (.iinc 5 1, 3) := by decide +kernel
theorem dX9_firstPartner_53 : decode cX9_firstPartner 53 = .ok (.goto (-48), 3) := by decide +kernel
theorem dX9_firstPartner_56 : decode cX9_firstPartner 56 = .ok (.iconst (-1), 1) := by decide +kernel
theorem dX9_firstPartner_57 : decode cX9_firstPartner 57 = .ok (.ireturn, 1) := by decide +kernel
