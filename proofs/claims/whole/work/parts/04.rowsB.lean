set_option maxRecDepth 20000 in
theorem ggX5_init_X0_init : GoodIn wsX5_init wsX0_init := goodIn_r _ [28, 29, 2, 3, 30, 31, 32, 33, 34, 35, 36, 37, 95, 96, 97, 98, 99, 100, 101, 102, 103, 104, 105] (by decide +kernel) (by decide +kernel)
set_option maxRecDepth 20000 in
theorem gX5_init_X0_init_n9 : GoodIn wsX5_init (wsX0_init) := ggX5_init_X0_init
set_option maxRecDepth 20000 in
theorem ggX5_init_X3_init : GoodIn wsX5_init wsX3_init := goodIn_r _ [40, 41, 2, 3, 32, 42, 43, 114, 115] (by decide +kernel) (by decide +kernel)
set_option maxRecDepth 20000 in
theorem gX5_init_X3_init : GoodIn wsX5_init (wsX3_init) := ggX5_init_X3_init
set_option maxRecDepth 20000 in
theorem ggX5_init_X4_init : GoodIn wsX5_init wsX4_init := goodIn_r _ [45, 46, 2, 3, 32, 47, 48, 49, 116, 117, 118, 119] (by decide +kernel) (by decide +kernel)
set_option maxRecDepth 20000 in
theorem gX5_init_X4_init_n30 : GoodIn wsX5_init (wsX4_init) := ggX5_init_X4_init
set_option maxRecDepth 20000 in
theorem ggX5_init_X1_init : GoodIn wsX5_init wsX1_init := goodIn_r _ [51, 52, 2, 3, 32, 53, 54, 55, 120, 121, 122, 123] (by decide +kernel) (by decide +kernel)
set_option maxRecDepth 20000 in
theorem gX5_init_X1_init_n37 : GoodIn wsX5_init (wsX1_init) := ggX5_init_X1_init
set_option maxRecDepth 20000 in
theorem ggX5_init_X2_init : GoodIn wsX5_init wsX2_init := goodIn_r _ [57, 58, 2, 3] (by decide +kernel) (by decide +kernel)
set_option maxRecDepth 20000 in
theorem gX5_init_X2_init_n44 : GoodIn wsX5_init (wsX2_init) := ggX5_init_X2_init
set_option maxRecDepth 20000 in
theorem ggX5_init_X5_beginAnew : GoodIn wsX5_init wsX5_beginAnew := goodIn_r _ [63, 7, 16, 20, 11, 64, 65, 66, 6, 67, 68, 69, 70, 71, 72, 33, 73, 74, 75, 76, 31, 77, 78, 79, 80, 81, 62, 82, 83, 84, 85, 10, 86, 43, 42, 87, 88, 89, 90, 91, 92, 93, 94, 34, 35, 37, 106, 107, 108, 109, 110, 111, 112, 113, 116, 117, 118, 119, 120, 121, 122, 123, 95, 96, 97, 98, 99, 100, 101, 102, 103, 104, 105, 114, 115] (by decide +kernel) (by decide +kernel)
set_option maxRecDepth 20000 in
theorem gX5_init_X5_beginAnew : GoodIn wsX5_init (wsV RX5 56 RX5 yX5_beginAnew wsX5_beginAnew) := goodIn_app (goodIn_of _ (by decide +kernel)) ggX5_init_X5_beginAnew
theorem dX5_init_0 : decode cX5_init 0 = .ok (.aload_n 0, 1) := by decide +kernel
theorem dX5_init_1 : decode cX5_init 1 = .ok (.invokespecial 1, 3) := by decide +kernel
theorem dX5_init_4 : decode cX5_init 4 = .ok (.aload_n 0, 1) := by decide +kernel
theorem dX5_init_5 : decode cX5_init 5 = .ok (.new 7, 3) := by decide +kernel
theorem dX5_init_8 : decode cX5_init 8 = .ok (.dup, 1) := by decide +kernel
theorem dX5_init_9 : decode cX5_init 9 = .ok (.invokespecial 9, 3) := by decide +kernel
theorem dX5_init_12 : decode cX5_init 12 = .ok (.putfield 10, 3) := by decide +kernel
theorem dX5_init_15 : decode cX5_init 15 = .ok (.aload_n 0, 1) := by decide +kernel
theorem dX5_init_16 : decode cX5_init 16 = .ok (.new 16, 3) := by decide +kernel
theorem dX5_init_19 : decode cX5_init 19 = .ok (.dup, 1) := by decide +kernel
theorem dX5_init_20 : decode cX5_init 20 = .ok (.aload_n 0, 1) := by decide +kernel
theorem dX5_init_21 : decode cX5_init 21 = .ok (.getfield 10, 3) := by decide +kernel
theorem dX5_init_24 : decode cX5_init 24 = .ok (.invokespecial 18, 3) := by decide +kernel
theorem dX5_init_27 : decode cX5_init 27 = .ok (.putfield 21, 3) := by decide +kernel
theorem dX5_init_30 : decode cX5_init 30 = .ok (.aload_n 0, 1) := by decide +kernel
theorem dX5_init_31 : decode cX5_init 31 = .ok (.new 16, 3) := by decide +kernel
theorem dX5_init_34 : decode cX5_init 34 = .ok (.dup, 1) := by decide +kernel
theorem dX5_init_35 : decode cX5_init 35 = .ok (.aload_n 0, 1) := by decide +kernel
theorem dX5_init_36 : decode cX5_init 36 = .ok (.getfield 10, 3) := by decide +kernel
theorem dX5_init_39 : decode cX5_init 39 = .ok (.invokespecial 18, 3) := by decide +kernel
theorem dX5_init_42 : decode cX5_init 42 = .ok (.putfield 25, 3) := by decide +kernel
theorem dX5_init_45 : decode cX5_init 45 = .ok (.aload_n 0, 1) := by decide +kernel
theorem dX5_init_46 : decode cX5_init 46 = .ok (.new 28, 3) := by decide +kernel
theorem dX5_init_49 : decode cX5_init 49 = .ok (.dup, 1) := by decide +kernel
theorem dX5_init_50 : decode cX5_init 50 = .ok (.invokespecial 30, 3) := by decide +kernel
theorem dX5_init_53 : decode cX5_init 53 = .ok (.putfield 31, 3) := by decide +kernel
theorem dX5_init_56 : decode cX5_init 56 = .ok (.aload_n 0, 1) := by decide +kernel
theorem dX5_init_57 : decode cX5_init 57 = .ok (.new 35, 3) := by decide +kernel
theorem dX5_init_60 : decode cX5_init 60 = .ok (.dup, 1) := by decide +kernel
theorem dX5_init_61 : decode cX5_init 61 = .ok (.invokespecial 37, 3) := by decide +kernel
theorem dX5_init_64 : decode cX5_init 64 = .ok (.putfield 38, 3) := by decide +kernel
theorem dX5_init_67 : decode cX5_init 67 = .ok (.aload_n 0, 1) := by decide +kernel
theorem dX5_init_68 : decode cX5_init 68 = .ok (.new 42, 3) := by decide +kernel
theorem dX5_init_71 : decode cX5_init 71 = .ok (.dup, 1) := by decide +kernel
theorem dX5_init_72 : decode cX5_init 72 = .ok (.invokespecial 44, 3) := by decide +kernel
theorem dX5_init_75 : decode cX5_init 75 = .ok (.putfield 45, 3) := by decide +kernel
theorem dX5_init_78 : decode cX5_init 78 = .ok (.aload_n 0, 1) := by decide +kernel
theorem dX5_init_79 : decode cX5_init 79 = .ok (.new 42, 3) := by decide +kernel
theorem dX5_init_82 : decode cX5_init 82 = .ok (.dup, 1) := by decide +kernel
theorem dX5_init_83 : decode cX5_init 83 = .ok (.invokespecial 44, 3) := by decide +kernel
theorem dX5_init_86 : decode cX5_init 86 = .ok (.putfield 49, 3) := by decide +kernel
theorem dX5_init_89 : decode cX5_init 89 = .ok (.aload_n 0, 1) := by decide +kernel
theorem dX5_init_90 : decode cX5_init 90 = .ok (.iconst 5, 1) := by decide +kernel
theorem dX5_init_91 : decode cX5_init 91 = .ok (.putfield 52, 3) := by decide +kernel
theorem dX5_init_94 : decode cX5_init 94 = .ok (.aload_n 0, 1) := by decide +kernel
theorem dX5_init_95 : decode cX5_init 95 = .ok (.iconst 4, 1) := by decide +kernel
theorem dX5_init_96 : decode cX5_init 96 = .ok (.invokevirtual 56, 3) := by decide +kernel
theorem dX5_init_99 : decode cX5_init 99 = .ok (.return_, 1) := by decide +kernel
set_option maxRecDepth 20000 in
theorem ggX5_beginAnew_X0_begin : GoodIn wsX5_beginAnew wsX0_begin := goodIn_r _ [9, 10, 11, 12, 13, 14, 15, 16, 17, 18, 8, 19, 20, 21, 22, 23, 24, 25, 26, 27, 62, 63, 64, 65, 66, 67, 68, 69, 70, 71, 72] (by decide +kernel) (by decide +kernel)
set_option maxRecDepth 20000 in
theorem gX5_beginAnew_X0_begin : GoodIn wsX5_beginAnew (wsV RX5 60 RX0 yX0_begin wsX0_begin) := goodIn_app (goodIn_of _ (by decide +kernel)) ggX5_beginAnew_X0_begin
set_option maxRecDepth 20000 in
theorem ggX5_beginAnew_X3_work : GoodIn wsX5_beginAnew wsX3_work := goodIn_r _ [32, 33, 34, 35, 36, 37, 8, 38, 14, 12, 39, 40, 41, 42, 43, 44, 45, 25, 26, 27, 73, 74, 62, 63, 64, 65, 66, 67, 68, 69, 70, 71, 72] (by decide +kernel) (by decide +kernel)
set_option maxRecDepth 20000 in
theorem gX5_beginAnew_X3_work : GoodIn wsX5_beginAnew (wsV RX5 70 RX3 yX3_work wsX3_work) := goodIn_app (goodIn_of _ (by decide +kernel)) ggX5_beginAnew_X3_work
theorem dX5_beginAnew_0 : decode cX5_beginAnew 0 = .ok (.aload_n 0, 1) := by decide +kernel
theorem dX5_beginAnew_1 : decode cX5_beginAnew 1 = .ok (.getfield 10, 3) := by decide +kernel
theorem dX5_beginAnew_4 : decode cX5_beginAnew 4 = .ok (.iload_n 1, 1) := by decide +kernel
theorem dX5_beginAnew_5 : decode cX5_beginAnew 5 = .ok (.invokevirtual 60, 3) := by decide +kernel
theorem dX5_beginAnew_8 : decode cX5_beginAnew 8 = .ok (.aload_n 0, 1) := by decide +kernel
theorem dX5_beginAnew_9 : decode cX5_beginAnew 9 = .ok (.getfield 31, 3) := by decide +kernel
theorem dX5_beginAnew_12 : decode cX5_beginAnew 12 = .ok (.iconst 0, 1) := by decide +kernel
theorem dX5_beginAnew_13 : decode cX5_beginAnew 13 = .ok (.putfield 63, 3) := by decide +kernel
theorem dX5_beginAnew_16 : decode cX5_beginAnew 16 = .ok (.aload_n 0, 1) := by decide +kernel
theorem dX5_beginAnew_17 : decode cX5_beginAnew 17 = .ok (.getfield 38, 3) := by decide +kernel
theorem dX5_beginAnew_20 : decode cX5_beginAnew 20 = .ok (.iconst 0, 1) := by decide +kernel
theorem dX5_beginAnew_21 : decode cX5_beginAnew 21 = .ok (.putfield 66, 3) := by decide +kernel
theorem dX5_beginAnew_24 : decode cX5_beginAnew 24 = .ok (.aload_n 0, 1) := by decide +kernel
theorem dX5_beginAnew_25 : decode cX5_beginAnew 25 = .ok (.getfield 21, 3) := by decide +kernel
theorem dX5_beginAnew_28 : decode cX5_beginAnew 28 = .ok (.aload_n 0, 1) := by decide +kernel
theorem dX5_beginAnew_29 : decode cX5_beginAnew 29 = .ok (.getfield 10, 3) := by decide +kernel
theorem dX5_beginAnew_32 : decode cX5_beginAnew 32 = .ok (.getfield 67, 3) := by decide +kernel
theorem dX5_beginAnew_35 : decode cX5_beginAnew 35 = .ok (.invokevirtual 70, 3) := by decide +kernel
theorem dX5_beginAnew_38 : decode cX5_beginAnew 38 = .ok (.return_, 1) := by decide +kernel
set_option maxRecDepth 20000 in
theorem ggX5_facts_X5_beginAnew : GoodIn wsX5_facts wsX5_beginAnew := goodIn_r _ [6, 1, 7, 8, 9, 10, 11, 12, 13, 14, 15, 16, 17, 18, 19, 20, 21, 22, 23, 24, 25, 26, 27, 28, 29, 30, 5, 31, 32, 33, 34, 35, 36, 37, 38, 39, 40, 41, 42, 43, 44, 45, 46, 47, 48, 49, 50, 51, 52, 53, 54, 55, 56, 57, 69, 70, 71, 72, 73, 74, 75, 76, 58, 59, 60, 61, 62, 63, 64, 65, 66, 67, 68, 77, 78] (by decide +kernel) (by decide +kernel)
set_option maxRecDepth 20000 in
theorem gX5_facts_X5_beginAnew : GoodIn wsX5_facts (wsV RX5 56 RX5 yX5_beginAnew wsX5_beginAnew) := goodIn_app (goodIn_of _ (by decide +kernel)) ggX5_facts_X5_beginAnew
theorem dX5_facts_0 : decode cX5_facts 0 = .ok (.iload_n 1, 1) := by decide +kernel
theorem dX5_facts_1 : decode cX5_facts 1 = .ok (.iconst 1, 1) := by decide +kernel
theorem dX5_facts_2 : decode cX5_facts 2 = .ok (.if_icmp .lt 9, 3) := by decide +kernel
theorem dX5_facts_5 : decode cX5_facts 5 = .ok (.iload_n 1, 1) := by decide +kernel
theorem dX5_facts_6 : decode cX5_facts 6 = .ok (.bipush 7, 2) := by decide +kernel
theorem dX5_facts_8 : decode cX5_facts 8 = .ok (.if_icmp .le 6, 3) := by decide +kernel
theorem dX5_facts_11 : decode cX5_facts 11 = .ok (.bipush (-2), 2) := by decide +kernel
theorem dX5_facts_13 : decode cX5_facts 13 = .ok (.ireturn, 1) := by decide +kernel
theorem dX5_facts_14 : decode cX5_facts 14 = .ok (.aload_n 0, 1) := by decide +kernel
theorem dX5_facts_15 : decode cX5_facts 15 = .ok (.getfield 10, 3) := by decide +kernel
theorem dX5_facts_18 : decode cX5_facts 18 = .ok (.getfield 73, 3) := by decide +kernel
theorem dX5_facts_21 : decode cX5_facts 21 = .ok (.istore_n 2, 1) := by decide +kernel
theorem dX5_facts_22 : decode cX5_facts 22 = .ok (.aload_n 0, 1) := by decide +kernel
theorem dX5_facts_23 : decode cX5_facts 23 = .ok (.iload_n 1, 1) := by decide +kernel
theorem dX5_facts_24 : decode cX5_facts 24 = .ok (.invokevirtual 56, 3) := by decide +kernel
theorem dX5_facts_27 : decode cX5_facts 27 = .ok (.iload_n 2, 1) := by decide +kernel
theorem dX5_facts_28 : decode cX5_facts 28 = .ok (.ireturn, 1) := by decide +kernel
set_option maxRecDepth 20000 in
theorem ggX5_barred_X0_hasFact : GoodIn wsX5_barred wsX0_hasFact := goodIn_r _ [6, 7, 41, 42, 43, 44, 45, 46, 47, 48, 49, 50, 51] (by decide +kernel) (by decide +kernel)
set_option maxRecDepth 20000 in
theorem gX5_barred_X0_hasFact : GoodIn wsX5_barred (wsV RX5 76 RX0 yX0_hasFact wsX0_hasFact) := goodIn_app (goodIn_of _ (by decide +kernel)) ggX5_barred_X0_hasFact
set_option maxRecDepth 20000 in
theorem ggX5_barred_X0_areBarred : GoodIn wsX5_barred wsX0_areBarred := goodIn_r _ [11, 12, 13, 14, 15, 41, 42, 43, 44, 45, 46, 47, 48, 49, 50, 51] (by decide +kernel) (by decide +kernel)
set_option maxRecDepth 20000 in
theorem gX5_barred_X0_areBarred : GoodIn wsX5_barred (wsV RX5 80 RX0 yX0_areBarred wsX0_areBarred) := goodIn_app (goodIn_of _ (by decide +kernel)) ggX5_barred_X0_areBarred
set_option maxRecDepth 20000 in
theorem ggX5_barred_X0_bar : GoodIn wsX5_barred wsX0_bar := goodIn_r _ [19, 12, 20, 21, 22, 5, 23, 24, 25, 26, 27, 28, 29, 7, 13, 14, 15, 41, 42, 43, 44, 45, 46, 47, 48, 49, 50, 51] (by decide +kernel) (by decide +kernel)
set_option maxRecDepth 20000 in
theorem gX5_barred_X0_bar : GoodIn wsX5_barred (wsV RX5 84 RX0 yX0_bar wsX0_bar) := goodIn_app (goodIn_of _ (by decide +kernel)) ggX5_barred_X0_bar
set_option maxRecDepth 20000 in
theorem ggX5_barred_X5_oneIf : GoodIn wsX5_barred wsX5_oneIf := goodIn_r _ [32] (by decide +kernel) (by decide +kernel)
set_option maxRecDepth 20000 in
theorem gX5_barred_X5_oneIf : GoodIn wsX5_barred (va_wsS RX5 88 yX5_oneIf wsX5_oneIf) := goodIn_app (goodIn_of _ (by decide +kernel)) ggX5_barred_X5_oneIf
theorem dX5_barred_0 : decode cX5_barred 0 = .ok (.aload_n 0, 1) := by decide +kernel
theorem dX5_barred_1 : decode cX5_barred 1 = .ok (.getfield 10, 3) := by decide +kernel
theorem dX5_barred_4 : decode cX5_barred 4 = .ok (.iload_n 1, 1) := by decide +kernel
theorem dX5_barred_5 : decode cX5_barred 5 = .ok (.invokevirtual 76, 3) := by decide +kernel
theorem dX5_barred_8 : decode cX5_barred 8 = .ok (.ifCond .eq 19, 3) := by decide +kernel
theorem dX5_barred_11 : decode cX5_barred 11 = .ok (.aload_n 0, 1) := by decide +kernel
theorem dX5_barred_12 : decode cX5_barred 12 = .ok (.getfield 10, 3) := by decide +kernel
theorem dX5_barred_15 : decode cX5_barred 15 = .ok (.iload_n 2, 1) := by decide +kernel
theorem dX5_barred_16 : decode cX5_barred 16 = .ok (.invokevirtual 76, 3) := by decide +kernel
theorem dX5_barred_19 : decode cX5_barred 19 = .ok (.ifCond .eq 8, 3) := by decide +kernel
theorem dX5_barred_22 : decode cX5_barred 22 = .ok (.iload_n 1, 1) := by decide +kernel
theorem dX5_barred_23 : decode cX5_barred 23 = .ok (.iload_n 2, 1) := by decide +kernel
theorem dX5_barred_24 : decode cX5_barred 24 = .ok (.if_icmp .ne 5, 3) := by decide +kernel
theorem dX5_barred_27 : decode cX5_barred 27 = .ok (.iconst (-1), 1) := by decide +kernel
theorem dX5_barred_28 : decode cX5_barred 28 = .ok (.ireturn, 1) := by decide +kernel
theorem dX5_barred_29 : decode cX5_barred 29 = .ok (.aload_n 0, 1) := by decide +kernel
theorem dX5_barred_30 : decode cX5_barred 30 = .ok (.getfield 10, 3) := by decide +kernel
theorem dX5_barred_33 : decode cX5_barred 33 = .ok (.iload_n 1, 1) := by decide +kernel
theorem dX5_barred_34 : decode cX5_barred 34 = .ok (.iload_n 2, 1) := by decide +kernel
theorem dX5_barred_35 : decode cX5_barred 35 = .ok (.invokevirtual 80, 3) := by decide +kernel
theorem dX5_barred_38 : decode cX5_barred 38 = .ok (.istore 4, 2) := by decide +kernel
theorem dX5_barred_40 : decode cX5_barred 40 = .ok (.aload_n 0, 1) := by decide +kernel
theorem dX5_barred_41 : decode cX5_barred 41 = .ok (.getfield 10, 3) := by decide +kernel
theorem dX5_barred_44 : decode cX5_barred 44 = .ok (.iload_n 1, 1) := by decide +kernel
theorem dX5_barred_45 : decode cX5_barred 45 = .ok (.iload_n 2, 1) := by decide +kernel
theorem dX5_barred_46 : decode cX5_barred 46 = .ok (.iload_n 3, 1) := by decide +kernel
theorem dX5_barred_47 : decode cX5_barred 47 = .ok (.invokevirtual 84, 3) := by decide +kernel
theorem dX5_barred_50 : decode cX5_barred 50 = .ok (.iload 4, 2) := by decide +kernel
theorem dX5_barred_52 : decode cX5_barred 52 = .ok (.invokestatic 88, 3) := by decide +kernel
theorem dX5_barred_55 : decode cX5_barred 55 = .ok (.ireturn, 1) := by decide +kernel
set_option maxRecDepth 20000 in
theorem ggX5_line_X0_areFacts : GoodIn wsX5_line wsX0_areFacts := goodIn_r _ [7, 8, 48, 49, 50, 51, 52, 53, 54, 55, 56, 57, 58] (by decide +kernel) (by decide +kernel)
set_option maxRecDepth 20000 in
theorem gX5_line_X0_areFacts : GoodIn wsX5_line (wsV RX5 92 RX0 yX0_areFacts wsX0_areFacts) := goodIn_app (goodIn_of _ (by decide +kernel)) ggX5_line_X0_areFacts
set_option maxRecDepth 20000 in
theorem ggX5_line_X5_isRuling : GoodIn wsX5_line wsX5_isRuling := goodIn_r _ [12] (by decide +kernel) (by decide +kernel)
set_option maxRecDepth 20000 in
theorem gX5_line_X5_isRuling : GoodIn wsX5_line (va_wsS RX5 95 yX5_isRuling wsX5_isRuling) := goodIn_app (goodIn_of _ (by decide +kernel)) ggX5_line_X5_isRuling
set_option maxRecDepth 20000 in
theorem ggX5_line_X0_addLine : GoodIn wsX5_line wsX0_addLine := goodIn_r _ [16, 17, 18, 19, 20, 21, 48, 49, 50, 51, 52, 53, 54, 55, 56, 57, 58] (by decide +kernel) (by decide +kernel)
set_option maxRecDepth 20000 in
theorem gX5_line_X0_addLine : GoodIn wsX5_line (wsV RX5 101 RX0 yX0_addLine wsX0_addLine) := goodIn_app (goodIn_of _ (by decide +kernel)) ggX5_line_X0_addLine
set_option maxRecDepth 20000 in
theorem ggX5_line_X3_work : GoodIn wsX5_line wsX3_work := goodIn_r _ [26, 27, 28, 29, 30, 31, 6, 32, 33, 17, 34, 35, 36, 37, 18, 19, 21, 38, 11, 39, 59, 60, 48, 49, 50, 51, 52, 53, 54, 55, 56, 57, 58] (by decide +kernel) (by decide +kernel)
set_option maxRecDepth 20000 in
theorem gX5_line_X3_work : GoodIn wsX5_line (wsV RX5 70 RX3 yX3_work wsX3_work) := goodIn_app (goodIn_of _ (by decide +kernel)) ggX5_line_X3_work
theorem dX5_line_0 : decode cX5_line 0 = .ok (.aload_n 0, 1) := by decide +kernel
theorem dX5_line_1 : decode cX5_line 1 = .ok (.getfield 10, 3) := by decide +kernel
theorem dX5_line_4 : decode cX5_line 4 = .ok (.iload_n 1, 1) := by decide +kernel
theorem dX5_line_5 : decode cX5_line 5 = .ok (.invokevirtual 92, 3) := by decide +kernel
theorem dX5_line_8 : decode cX5_line 8 = .ok (.ifCond .eq 27, 3) := by decide +kernel
theorem dX5_line_11 : decode cX5_line 11 = .ok (.aload_n 0, 1) := by decide +kernel
theorem dX5_line_12 : decode cX5_line 12 = .ok (.getfield 10, 3) := by decide +kernel
theorem dX5_line_15 : decode cX5_line 15 = .ok (.iload_n 2, 1) := by decide +kernel
theorem dX5_line_16 : decode cX5_line 16 = .ok (.invokevirtual 92, 3) := by decide +kernel
theorem dX5_line_19 : decode cX5_line 19 = .ok (.ifCond .eq 16, 3) := by decide +kernel
theorem dX5_line_22 : decode cX5_line 22 = .ok (.iload_n 1, 1) := by decide +kernel
theorem dX5_line_23 : decode cX5_line 23 = .ok (.iload_n 2, 1) := by decide +kernel
theorem dX5_line_24 : decode cX5_line 24 = .ok (.iand, 1) := by decide +kernel
theorem dX5_line_25 : decode cX5_line 25 = .ok (.ifCond .ne 10, 3) := by decide +kernel
theorem dX5_line_28 : decode cX5_line 28 = .ok (.iload_n 3, 1) := by decide +kernel
theorem dX5_line_29 : decode cX5_line 29 = .ok (.invokestatic 95, 3) := by decide +kernel
theorem dX5_line_32 : decode cX5_line 32 = .ok (.ifCond .ne 6, 3) := by decide +kernel
theorem dX5_line_35 : decode cX5_line 35 = .ok (.bipush (-2), 2) := by decide +kernel
theorem dX5_line_37 : decode cX5_line 37 = .ok (.ireturn, 1) := by decide +kernel
theorem dX5_line_38 : decode cX5_line 38 = .ok (.aload_n 0, 1) := by decide +kernel
theorem dX5_line_39 : decode cX5_line 39 = .ok (.getfield 10, 3) := by decide +kernel
theorem dX5_line_42 : decode cX5_line 42 = .ok (.getfield 98, 3) := by decide +kernel
theorem dX5_line_45 : decode cX5_line 45 = .ok (.bipush 12, 2) := by decide +kernel
theorem dX5_line_47 : decode cX5_line 47 = .ok (.if_icmp .lt 6, 3) := by decide +kernel
theorem dX5_line_50 : decode cX5_line 50 = .ok (.bipush (-4), 2) := by decide +kernel
theorem dX5_line_52 : decode cX5_line 52 = .ok (.ireturn, 1) := by decide +kernel
theorem dX5_line_53 : decode cX5_line 53 = .ok (.aload_n 0, 1) := by decide +kernel
theorem dX5_line_54 : decode cX5_line 54 = .ok (.getfield 10, 3) := by decide +kernel
theorem dX5_line_57 : decode cX5_line 57 = .ok (.iload_n 1, 1) := by decide +kernel
theorem dX5_line_58 : decode cX5_line 58 = .ok (.iload_n 2, 1) := by decide +kernel
theorem dX5_line_59 : decode cX5_line 59 = .ok (.iload_n 3, 1) := by decide +kernel
theorem dX5_line_60 : decode cX5_line 60 = .ok (.invokevirtual 101, 3) := by decide +kernel
theorem dX5_line_63 : decode cX5_line 63 = .ok (.istore 4, 2) := by decide +kernel
theorem dX5_line_65 : decode cX5_line 65 = .ok (.aload_n 0, 1) := by decide +kernel
theorem dX5_line_66 : decode cX5_line 66 = .ok (.getfield 21, 3) := by decide +kernel
theorem dX5_line_69 : decode cX5_line 69 = .ok (.aload_n 0, 1) := by decide +kernel
theorem dX5_line_70 : decode cX5_line 70 = .ok (.getfield 10, 3) := by decide +kernel
theorem dX5_line_73 : decode cX5_line 73 = .ok (.getfield 67, 3) := by decide +kernel
theorem dX5_line_76 : decode cX5_line 76 = .ok (.invokevirtual 70, 3) := by decide +kernel
theorem dX5_line_79 : decode cX5_line 79 = .ok (.iload 4, 2) := by decide +kernel
theorem dX5_line_81 : decode cX5_line 81 = .ok (.ireturn, 1) := by decide +kernel
set_option maxRecDepth 20000 in
theorem ggX5_except_X0_hasLine : GoodIn wsX5_except wsX0_hasLine := goodIn_r _ [7, 8, 54, 55, 56, 57, 58, 59, 60, 61, 62, 63, 64] (by decide +kernel) (by decide +kernel)
set_option maxRecDepth 20000 in
theorem gX5_except_X0_hasLine : GoodIn wsX5_except (wsV RX5 105 RX0 yX0_hasLine wsX0_hasLine) := goodIn_app (goodIn_of _ (by decide +kernel)) ggX5_except_X0_hasLine
set_option maxRecDepth 20000 in
theorem ggX5_except_X0_excepts : GoodIn wsX5_except wsX0_excepts := goodIn_r _ [12, 13, 14, 15, 16, 54, 55, 56, 57, 58, 59, 60, 61, 62, 63, 64] (by decide +kernel) (by decide +kernel)
set_option maxRecDepth 20000 in
theorem gX5_except_X0_excepts : GoodIn wsX5_except (wsV RX5 108 RX0 yX0_excepts wsX0_excepts) := goodIn_app (goodIn_of _ (by decide +kernel)) ggX5_except_X0_excepts
set_option maxRecDepth 20000 in
theorem ggX5_except_X0_addException : GoodIn wsX5_except wsX0_addException := goodIn_r _ [20, 13, 21, 54, 55, 56, 57, 58, 59, 60, 61, 62, 63, 64] (by decide +kernel) (by decide +kernel)
set_option maxRecDepth 20000 in
theorem gX5_except_X0_addException : GoodIn wsX5_except (wsV RX5 111 RX0 yX0_addException wsX0_addException) := goodIn_app (goodIn_of _ (by decide +kernel)) ggX5_except_X0_addException
set_option maxRecDepth 20000 in
theorem ggX5_except_X3_work : GoodIn wsX5_except wsX3_work := goodIn_r _ [26, 27, 28, 29, 30, 31, 6, 32, 21, 8, 33, 34, 35, 36, 37, 38, 13, 14, 15, 16, 65, 66, 54, 55, 56, 57, 58, 59, 60, 61, 62, 63, 64] (by decide +kernel) (by decide +kernel)
set_option maxRecDepth 20000 in
theorem gX5_except_X3_work : GoodIn wsX5_except (wsV RX5 70 RX3 yX3_work wsX3_work) := goodIn_app (goodIn_of _ (by decide +kernel)) ggX5_except_X3_work
set_option maxRecDepth 20000 in
theorem ggX5_except_J6_bitCount_0f7a4 : GoodIn wsX5_except wsJ6_bitCount_0f7a4 := goodIn_r _ [42, 43, 44, 45] (by decide +kernel) (by decide +kernel)
set_option maxRecDepth 20000 in
theorem gX5_except_J6_bitCount_0f7a4 : GoodIn wsX5_except (va_wsS RX5 119 yJ6_bitCount_0f7a4 wsJ6_bitCount_0f7a4) := goodIn_app (goodIn_of _ (by decide +kernel)) ggX5_except_J6_bitCount_0f7a4
theorem dX5_except_0 : decode cX5_except 0 = .ok (.aload_n 0, 1) := by decide +kernel
theorem dX5_except_1 : decode cX5_except 1 = .ok (.getfield 10, 3) := by decide +kernel
theorem dX5_except_4 : decode cX5_except 4 = .ok (.iload_n 1, 1) := by decide +kernel
theorem dX5_except_5 : decode cX5_except 5 = .ok (.invokevirtual 105, 3) := by decide +kernel
theorem dX5_except_8 : decode cX5_except 8 = .ok (.ifCond .eq 14, 3) := by decide +kernel
theorem dX5_except_11 : decode cX5_except 11 = .ok (.aload_n 0, 1) := by decide +kernel
theorem dX5_except_12 : decode cX5_except 12 = .ok (.getfield 10, 3) := by decide +kernel
theorem dX5_except_15 : decode cX5_except 15 = .ok (.iload_n 2, 1) := by decide +kernel
theorem dX5_except_16 : decode cX5_except 16 = .ok (.invokevirtual 105, 3) := by decide +kernel
theorem dX5_except_19 : decode cX5_except 19 = .ok (.ifCond .ne 5, 3) := by decide +kernel
theorem dX5_except_22 : decode cX5_except 22 = .ok (.iconst (-1), 1) := by decide +kernel
theorem dX5_except_23 : decode cX5_except 23 = .ok (.ireturn, 1) := by decide +kernel
theorem dX5_except_24 : decode cX5_except 24 = .ok (.iload_n 1, 1) := by decide +kernel
theorem dX5_except_25 : decode cX5_except 25 = .ok (.iload_n 2, 1) := by decide +kernel
theorem dX5_except_26 : decode cX5_except 26 = .ok (.if_icmp .le 15, 3) := by decide +kernel
theorem dX5_except_29 : decode cX5_except 29 = .ok (.aload_n 0, 1) := by decide +kernel
theorem dX5_except_30 : decode cX5_except 30 = .ok (.getfield 10, 3) := by decide +kernel
theorem dX5_except_33 : decode cX5_except 33 = .ok (.iload_n 1, 1) := by decide +kernel
theorem dX5_except_34 : decode cX5_except 34 = .ok (.iload_n 2, 1) := by decide +kernel
theorem dX5_except_35 : decode cX5_except 35 = .ok (.invokevirtual 108, 3) := by decide +kernel
theorem dX5_except_38 : decode cX5_except 38 = .ok (.ifCond .eq 6, 3) := by decide +kernel
theorem dX5_except_41 : decode cX5_except 41 = .ok (.bipush (-5), 2) := by decide +kernel
theorem dX5_except_43 : decode cX5_except 43 = .ok (.ireturn, 1) := by decide +kernel
theorem dX5_except_44 : decode cX5_except 44 = .ok (.aload_n 0, 1) := by decide +kernel
theorem dX5_except_45 : decode cX5_except 45 = .ok (.getfield 10, 3) := by decide +kernel
theorem dX5_except_48 : decode cX5_except 48 = .ok (.iload_n 1, 1) := by decide +kernel
theorem dX5_except_49 : decode cX5_except 49 = .ok (.iload_n 2, 1) := by decide +kernel
theorem dX5_except_50 : decode cX5_except 50 = .ok (.invokevirtual 111, 3) := by decide +kernel
theorem dX5_except_53 : decode cX5_except 53 = .ok (.aload_n 0, 1) := by decide +kernel
theorem dX5_except_54 : decode cX5_except 54 = .ok (.getfield 21, 3) := by decide +kernel
theorem dX5_except_57 : decode cX5_except 57 = .ok (.aload_n 0, 1) := by decide +kernel
theorem dX5_except_58 : decode cX5_except 58 = .ok (.getfield 10, 3) := by decide +kernel
theorem dX5_except_61 : decode cX5_except 61 = .ok (.getfield 67, 3) := by decide +kernel
theorem dX5_except_64 : decode cX5_except 64 = .ok (.invokevirtual 70, 3) := by decide +kernel
theorem dX5_except_67 : decode cX5_except 67 = .ok (.aload_n 0, 1) := by decide +kernel
theorem dX5_except_68 : decode cX5_except 68 = .ok (.getfield 10, 3) := by decide +kernel
theorem dX5_except_71 : decode cX5_except 71 = .ok (.getfield 115, 3) := by decide +kernel
theorem dX5_except_74 : decode cX5_except 74 = .ok (.iload_n 2, 1) := by decide +kernel
theorem dX5_except_75 : decode cX5_except 75 = .ok (.iaload, 1) := by decide +kernel
theorem dX5_except_76 : decode cX5_except 76 = .ok (.invokestatic 119, 3) := by decide +kernel
theorem dX5_except_79 : decode cX5_except 79 = .ok (.ireturn, 1) := by decide +kernel
set_option maxRecDepth 20000 in
theorem ggX5_repeal_X0_hasLine : GoodIn wsX5_repeal wsX0_hasLine := goodIn_r _ [7, 8, 51, 52, 53, 54, 55, 56, 57, 58, 59, 60, 61] (by decide +kernel) (by decide +kernel)
set_option maxRecDepth 20000 in
theorem gX5_repeal_X0_hasLine : GoodIn wsX5_repeal (wsV RX5 105 RX0 yX0_hasLine wsX0_hasLine) := goodIn_app (goodIn_of _ (by decide +kernel)) ggX5_repeal_X0_hasLine
set_option maxRecDepth 20000 in
theorem ggX5_repeal_X0_isRepealed : GoodIn wsX5_repeal wsX0_isRepealed := goodIn_r _ [12, 13, 14, 15, 16, 51, 52, 53, 54, 55, 56, 57, 58, 59, 60, 61] (by decide +kernel) (by decide +kernel)
set_option maxRecDepth 20000 in
theorem gX5_repeal_X0_isRepealed : GoodIn wsX5_repeal (wsV RX5 125 RX0 yX0_isRepealed wsX0_isRepealed) := goodIn_app (goodIn_of _ (by decide +kernel)) ggX5_repeal_X0_isRepealed
set_option maxRecDepth 20000 in
theorem ggX5_repeal_X0_repealedIfMended : GoodIn wsX5_repeal wsX0_repealedIfMended := goodIn_r _ [20, 13, 51, 52, 53, 54, 55, 56, 57, 58, 59, 60, 61] (by decide +kernel) (by decide +kernel)
set_option maxRecDepth 20000 in
theorem gX5_repeal_X0_repealedIfMended : GoodIn wsX5_repeal (wsV RX5 128 RX0 yX0_repealedIfMended wsX0_repealedIfMended) := goodIn_app (goodIn_of _ (by decide +kernel)) ggX5_repeal_X0_repealedIfMended
set_option maxRecDepth 20000 in
theorem ggX5_repeal_X3_work : GoodIn wsX5_repeal wsX3_work := goodIn_r _ [25, 26, 27, 28, 29, 30, 6, 31, 32, 8, 33, 34, 35, 36, 37, 38, 39, 14, 15, 16, 62, 63, 51, 52, 53, 54, 55, 56, 57, 58, 59, 60, 61] (by decide +kernel) (by decide +kernel)
set_option maxRecDepth 20000 in
theorem gX5_repeal_X3_work : GoodIn wsX5_repeal (wsV RX5 70 RX3 yX3_work wsX3_work) := goodIn_app (goodIn_of _ (by decide +kernel)) ggX5_repeal_X3_work
set_option maxRecDepth 20000 in
theorem ggX5_repeal_X5_oneIf : GoodIn wsX5_repeal wsX5_oneIf := goodIn_r _ [42] (by decide +kernel) (by decide +kernel)
set_option maxRecDepth 20000 in
theorem gX5_repeal_X5_oneIf : GoodIn wsX5_repeal (va_wsS RX5 88 yX5_oneIf wsX5_oneIf) := goodIn_app (goodIn_of _ (by decide +kernel)) ggX5_repeal_X5_oneIf
theorem dX5_repeal_0 : decode cX5_repeal 0 = .ok (.aload_n 0, 1) := by decide +kernel
theorem dX5_repeal_1 : decode cX5_repeal 1 = .ok (.getfield 10, 3) := by decide +kernel
theorem dX5_repeal_4 : decode cX5_repeal 4 = .ok (.iload_n 1, 1) := by decide +kernel
theorem dX5_repeal_5 : decode cX5_repeal 5 = .ok (.invokevirtual 105, 3) := by decide +kernel
theorem dX5_repeal_8 : decode cX5_repeal 8 = .ok (.ifCond .ne 5, 3) := by decide +kernel
theorem dX5_repeal_11 : decode cX5_repeal 11 = .ok (.iconst (-1), 1) := by decide +kernel
theorem dX5_repeal_12 : decode cX5_repeal 12 = .ok (.ireturn, 1) := by decide +kernel
theorem dX5_repeal_13 : decode cX5_repeal 13 = .ok (.aload_n 0, 1) := by decide +kernel
theorem dX5_repeal_14 : decode cX5_repeal 14 = .ok (.getfield 10, 3) := by decide +kernel
theorem dX5_repeal_17 : decode cX5_repeal 17 = .ok (.iload_n 1, 1) := by decide +kernel
theorem dX5_repeal_18 : decode cX5_repeal 18 = .ok (.invokevirtual 125, 3) := by decide +kernel
theorem dX5_repeal_21 : decode cX5_repeal 21 = .ok (.istore_n 3, 1) := by decide +kernel
theorem dX5_repeal_22 : decode cX5_repeal 22 = .ok (.iload_n 3, 1) := by decide +kernel
theorem dX5_repeal_23 : decode cX5_repeal 23 = .ok (.iload_n 2, 1) := by decide +kernel
theorem dX5_repeal_24 : decode cX5_repeal 24 = .ok (.if_icmp .eq 32, 3) := by decide +kernel
theorem dX5_repeal_27 : decode cX5_repeal 27 = .ok (.aload_n 0, 1) := by decide +kernel
theorem dX5_repeal_28 : decode cX5_repeal 28 = .ok (.getfield 10, 3) := by decide +kernel
theorem dX5_repeal_31 : decode cX5_repeal 31 = .ok (.aload_n 0, 1) := by decide +kernel
theorem dX5_repeal_32 : decode cX5_repeal 32 = .ok (.getfield 10, 3) := by decide +kernel
theorem dX5_repeal_35 : decode cX5_repeal 35 = .ok (.iload_n 1, 1) := by decide +kernel
theorem dX5_repeal_36 : decode cX5_repeal 36 = .ok (.invokevirtual 128, 3) := by decide +kernel
theorem dX5_repeal_39 : decode cX5_repeal 39 = .ok (.putfield 67, 3) := by decide +kernel
theorem dX5_repeal_42 : decode cX5_repeal 42 = .ok (.aload_n 0, 1) := by decide +kernel
theorem dX5_repeal_43 : decode cX5_repeal 43 = .ok (.getfield 21, 3) := by decide +kernel
theorem dX5_repeal_46 : decode cX5_repeal 46 = .ok (.aload_n 0, 1) := by decide +kernel
theorem dX5_repeal_47 : decode cX5_repeal 47 = .ok (.getfield 10, 3) := by decide +kernel
theorem dX5_repeal_50 : decode cX5_repeal 50 = .ok (.getfield 67, 3) := by decide +kernel
theorem dX5_repeal_53 : decode cX5_repeal 53 = .ok (.invokevirtual 70, 3) := by decide +kernel
theorem dX5_repeal_56 : decode cX5_repeal 56 = .ok (.iload_n 3, 1) := by decide +kernel
theorem dX5_repeal_57 : decode cX5_repeal 57 = .ok (.invokestatic 88, 3) := by decide +kernel
theorem dX5_repeal_60 : decode cX5_repeal 60 = .ok (.ireturn, 1) := by decide +kernel
set_option maxRecDepth 20000 in
theorem ggX5_about_X0_hasLine : GoodIn wsX5_about wsX0_hasLine := goodIn_r _ [6, 7, 34, 35, 36, 37, 38, 39, 40, 41, 42, 43, 44] (by decide +kernel) (by decide +kernel)
set_option maxRecDepth 20000 in
theorem gX5_about_X0_hasLine : GoodIn wsX5_about (wsV RX5 105 RX0 yX0_hasLine wsX0_hasLine) := goodIn_app (goodIn_of _ (by decide +kernel)) ggX5_about_X0_hasLine
set_option maxRecDepth 20000 in
theorem ggX5_about_X0_isRepealed : GoodIn wsX5_about wsX0_isRepealed := goodIn_r _ [11, 12, 13, 14, 15, 34, 35, 36, 37, 38, 39, 40, 41, 42, 43, 44] (by decide +kernel) (by decide +kernel)
set_option maxRecDepth 20000 in
theorem gX5_about_X0_isRepealed : GoodIn wsX5_about (wsV RX5 125 RX0 yX0_isRepealed wsX0_isRepealed) := goodIn_app (goodIn_of _ (by decide +kernel)) ggX5_about_X0_isRepealed
set_option maxRecDepth 20000 in
theorem ggX5_about_X5_oneIf : GoodIn wsX5_about wsX5_oneIf := goodIn_r _ [18] (by decide +kernel) (by decide +kernel)
set_option maxRecDepth 20000 in
theorem gX5_about_X5_oneIf : GoodIn wsX5_about (va_wsS RX5 88 yX5_oneIf wsX5_oneIf) := goodIn_app (goodIn_of _ (by decide +kernel)) ggX5_about_X5_oneIf
set_option maxRecDepth 20000 in
theorem ggX5_about_X0_namedBy : GoodIn wsX5_about wsX0_namedBy := goodIn_r _ [22, 7, 23, 24, 25, 12, 13, 14, 15, 34, 35, 36, 37, 38, 39, 40, 41, 42, 43, 44] (by decide +kernel) (by decide +kernel)
set_option maxRecDepth 20000 in
theorem gX5_about_X0_namedBy : GoodIn wsX5_about (wsV RX5 140 RX0 yX0_namedBy wsX0_namedBy) := goodIn_app (goodIn_of _ (by decide +kernel)) ggX5_about_X0_namedBy
theorem dX5_about_0 : decode cX5_about 0 = .ok (.aload_n 0, 1) := by decide +kernel
theorem dX5_about_1 : decode cX5_about 1 = .ok (.getfield 10, 3) := by decide +kernel
theorem dX5_about_4 : decode cX5_about 4 = .ok (.iload_n 1, 1) := by decide +kernel
theorem dX5_about_5 : decode cX5_about 5 = .ok (.invokevirtual 105, 3) := by decide +kernel
theorem dX5_about_8 : decode cX5_about 8 = .ok (.ifCond .ne 5, 3) := by decide +kernel
theorem dX5_about_11 : decode cX5_about 11 = .ok (.iconst (-1), 1) := by decide +kernel
theorem dX5_about_12 : decode cX5_about 12 = .ok (.ireturn, 1) := by decide +kernel
theorem dX5_about_13 : decode cX5_about 13 = .ok (.iload_n 2, 1) := by decide +kernel
theorem dX5_about_14 : decode cX5_about 14 = .ok (.tableswitch 99 0 5 #[38, 48, 58, 68, 80, 90], 38) := by decide +kernel
theorem dX5_about_52 : decode cX5_about 52 = .ok (.aload_n 0, 1) := by decide +kernel
theorem dX5_about_53 : decode cX5_about 53 = .ok (.getfield 10, 3) := by decide +kernel
theorem dX5_about_56 : decode cX5_about 56 = .ok (.getfield 131, 3) := by decide +kernel
theorem dX5_about_59 : decode cX5_about 59 = .ok (.iload_n 1, 1) := by decide +kernel
theorem dX5_about_60 : decode cX5_about 60 = .ok (.iaload, 1) := by decide +kernel
theorem dX5_about_61 : decode cX5_about 61 = .ok (.ireturn, 1) := by decide +kernel
theorem dX5_about_62 : decode cX5_about 62 = .ok (.aload_n 0, 1) := by decide +kernel
theorem dX5_about_63 : decode cX5_about 63 = .ok (.getfield 10, 3) := by decide +kernel
theorem dX5_about_66 : decode cX5_about 66 = .ok (.getfield 134, 3) := by decide +kernel
theorem dX5_about_69 : decode cX5_about 69 = .ok (.iload_n 1, 1) := by decide +kernel
theorem dX5_about_70 : decode cX5_about 70 = .ok (.iaload, 1) := by decide +kernel
theorem dX5_about_71 : decode cX5_about 71 = .ok (.ireturn, 1) := by decide +kernel
theorem dX5_about_72 : decode cX5_about 72 = .ok (.aload_n 0, 1) := by decide +kernel
theorem dX5_about_73 : decode cX5_about 73 = .ok (.getfield 10, 3) := by decide +kernel
theorem dX5_about_76 : decode cX5_about 76 = .ok (.getfield 137, 3) := by decide +kernel
theorem dX5_about_79 : decode cX5_about 79 = .ok (.iload_n 1, 1) := by decide +kernel
theorem dX5_about_80 : decode cX5_about 80 = .ok (.iaload, 1) := by decide +kernel
theorem dX5_about_81 : decode cX5_about 81 = .ok (.ireturn, 1) := by decide +kernel
theorem dX5_about_82 : decode cX5_about 82 = .ok (.aload_n 0, 1) := by decide +kernel
theorem dX5_about_83 : decode cX5_about 83 = .ok (.getfield 10, 3) := by decide +kernel
theorem dX5_about_86 : decode cX5_about 86 = .ok (.iload_n 1, 1) := by decide +kernel
theorem dX5_about_87 : decode cX5_about 87 = .ok (.invokevirtual 125, 3) := by decide +kernel
theorem dX5_about_90 : decode cX5_about 90 = .ok (.invokestatic 88, 3) := by decide +kernel
theorem dX5_about_93 : decode cX5_about 93 = .ok (.ireturn, 1) := by decide +kernel
theorem dX5_about_94 : decode cX5_about 94 = .ok (.aload_n 0, 1) := by decide +kernel
theorem dX5_about_95 : decode cX5_about 95 = .ok (.getfield 10, 3) := by decide +kernel
theorem dX5_about_98 : decode cX5_about 98 = .ok (.getfield 115, 3) := by decide +kernel
theorem dX5_about_101 : decode cX5_about 101 = .ok (.iload_n 1, 1) := by decide +kernel
theorem dX5_about_102 : decode cX5_about 102 = .ok (.iaload, 1) := by decide +kernel
theorem dX5_about_103 : decode cX5_about 103 = .ok (.ireturn, 1) := by decide +kernel
theorem dX5_about_104 : decode cX5_about 104 = .ok (.aload_n 0, 1) := by decide +kernel
theorem dX5_about_105 : decode cX5_about 105 = .ok (.getfield 10, 3) := by decide +kernel
theorem dX5_about_108 : decode cX5_about 108 = .ok (.iload_n 1, 1) := by decide +kernel
theorem dX5_about_109 : decode cX5_about 109 = .ok (.invokevirtual 140, 3) := by decide +kernel
theorem dX5_about_112 : decode cX5_about 112 = .ok (.ireturn, 1) := by decide +kernel
theorem dX5_about_113 : decode cX5_about 113 = .ok (.bipush (-2), 2) := by decide +kernel
theorem dX5_about_115 : decode cX5_about 115 = .ok (.ireturn, 1) := by decide +kernel
set_option maxRecDepth 20000 in
theorem ggX5_holds_X0_hasLine : GoodIn wsX5_holds wsX0_hasLine := goodIn_r _ [6, 7, 36, 37, 38, 39, 40, 41, 42, 43, 44, 45, 46] (by decide +kernel) (by decide +kernel)
set_option maxRecDepth 20000 in
theorem gX5_holds_X0_hasLine : GoodIn wsX5_holds (wsV RX5 105 RX0 yX0_hasLine wsX0_hasLine) := goodIn_app (goodIn_of _ (by decide +kernel)) ggX5_holds_X0_hasLine
set_option maxRecDepth 20000 in
theorem ggX5_holds_X0_hasKind : GoodIn wsX5_holds wsX0_hasKind := goodIn_r _ [11, 12, 13, 36, 37, 38, 39, 40, 41, 42, 43, 44, 45, 46] (by decide +kernel) (by decide +kernel)
set_option maxRecDepth 20000 in
theorem gX5_holds_X0_hasKind : GoodIn wsX5_holds (wsV RX5 143 RX0 yX0_hasKind wsX0_hasKind) := goodIn_app (goodIn_of _ (by decide +kernel)) ggX5_holds_X0_hasKind
set_option maxRecDepth 20000 in
theorem ggX5_holds_X0_holding : GoodIn wsX5_holds wsX0_holding := goodIn_r _ [17, 7, 18, 19, 20, 21, 22, 23, 36, 37, 38, 39, 40, 41, 42, 43, 44, 45, 46] (by decide +kernel) (by decide +kernel)
set_option maxRecDepth 20000 in
theorem gX5_holds_X0_holding : GoodIn wsX5_holds (wsV RX5 146 RX0 yX0_holding wsX0_holding) := goodIn_app (goodIn_of _ (by decide +kernel)) ggX5_holds_X0_holding
set_option maxRecDepth 20000 in
theorem ggX5_holds_X5_hasBit : GoodIn wsX5_holds wsX5_hasBit := goodIn_r _ [23] (by decide +kernel) (by decide +kernel)
set_option maxRecDepth 20000 in
theorem gX5_holds_X5_hasBit : GoodIn wsX5_holds (va_wsS RX5 150 yX5_hasBit wsX5_hasBit) := goodIn_app (goodIn_of _ (by decide +kernel)) ggX5_holds_X5_hasBit
set_option maxRecDepth 20000 in
theorem ggX5_holds_X5_oneIf : GoodIn wsX5_holds wsX5_oneIf := goodIn_r _ [27] (by decide +kernel) (by decide +kernel)
set_option maxRecDepth 20000 in
theorem gX5_holds_X5_oneIf : GoodIn wsX5_holds (va_wsS RX5 88 yX5_oneIf wsX5_oneIf) := goodIn_app (goodIn_of _ (by decide +kernel)) ggX5_holds_X5_oneIf
theorem dX5_holds_0 : decode cX5_holds 0 = .ok (.aload_n 0, 1) := by decide +kernel
theorem dX5_holds_1 : decode cX5_holds 1 = .ok (.getfield 10, 3) := by decide +kernel
theorem dX5_holds_4 : decode cX5_holds 4 = .ok (.iload_n 1, 1) := by decide +kernel
theorem dX5_holds_5 : decode cX5_holds 5 = .ok (.invokevirtual 105, 3) := by decide +kernel
theorem dX5_holds_8 : decode cX5_holds 8 = .ok (.ifCond .ne 5, 3) := by decide +kernel
theorem dX5_holds_11 : decode cX5_holds 11 = .ok (.iconst (-1), 1) := by decide +kernel
theorem dX5_holds_12 : decode cX5_holds 12 = .ok (.ireturn, 1) := by decide +kernel
theorem dX5_holds_13 : decode cX5_holds 13 = .ok (.aload_n 0, 1) := by decide +kernel
theorem dX5_holds_14 : decode cX5_holds 14 = .ok (.getfield 10, 3) := by decide +kernel
theorem dX5_holds_17 : decode cX5_holds 17 = .ok (.iload_n 2, 1) := by decide +kernel
theorem dX5_holds_18 : decode cX5_holds 18 = .ok (.invokevirtual 143, 3) := by decide +kernel
theorem dX5_holds_21 : decode cX5_holds 21 = .ok (.ifCond .ne 6, 3) := by decide +kernel
theorem dX5_holds_24 : decode cX5_holds 24 = .ok (.bipush (-2), 2) := by decide +kernel
theorem dX5_holds_26 : decode cX5_holds 26 = .ok (.ireturn, 1) := by decide +kernel
theorem dX5_holds_27 : decode cX5_holds 27 = .ok (.aload_n 0, 1) := by decide +kernel
theorem dX5_holds_28 : decode cX5_holds 28 = .ok (.getfield 10, 3) := by decide +kernel
theorem dX5_holds_31 : decode cX5_holds 31 = .ok (.iload_n 2, 1) := by decide +kernel
theorem dX5_holds_32 : decode cX5_holds 32 = .ok (.aload_n 0, 1) := by decide +kernel
theorem dX5_holds_33 : decode cX5_holds 33 = .ok (.getfield 10, 3) := by decide +kernel
theorem dX5_holds_36 : decode cX5_holds 36 = .ok (.getfield 67, 3) := by decide +kernel
theorem dX5_holds_39 : decode cX5_holds 39 = .ok (.invokevirtual 146, 3) := by decide +kernel
theorem dX5_holds_42 : decode cX5_holds 42 = .ok (.iload_n 1, 1) := by decide +kernel
theorem dX5_holds_43 : decode cX5_holds 43 = .ok (.invokestatic 150, 3) := by decide +kernel
theorem dX5_holds_46 : decode cX5_holds 46 = .ok (.invokestatic 88, 3) := by decide +kernel
theorem dX5_holds_49 : decode cX5_holds 49 = .ok (.ireturn, 1) := by decide +kernel
set_option maxRecDepth 20000 in
theorem ggX5_law_X0_hasKind : GoodIn wsX5_law wsX0_hasKind := goodIn_r _ [7, 8, 9, 31, 32, 33, 34, 35, 36, 37, 38, 39, 40, 41] (by decide +kernel) (by decide +kernel)
set_option maxRecDepth 20000 in
theorem gX5_law_X0_hasKind : GoodIn wsX5_law (wsV RX5 143 RX0 yX0_hasKind wsX0_hasKind) := goodIn_app (goodIn_of _ (by decide +kernel)) ggX5_law_X0_hasKind
set_option maxRecDepth 20000 in
theorem ggX5_law_X3_rulingFor : GoodIn wsX5_law wsX3_rulingFor := goodIn_r _ [14, 15, 16, 17, 18, 19, 13, 20, 29, 30, 31, 32, 33, 34, 35, 36, 37, 38, 39, 40, 41] (by decide +kernel) (by decide +kernel)
set_option maxRecDepth 20000 in
theorem gX5_law_X3_rulingFor : GoodIn wsX5_law (wsV RX5 156 RX3 yX3_rulingFor wsX3_rulingFor) := goodIn_app (goodIn_of _ (by decide +kernel)) ggX5_law_X3_rulingFor
theorem dX5_law_0 : decode cX5_law 0 = .ok (.aload_n 0, 1) := by decide +kernel
theorem dX5_law_1 : decode cX5_law 1 = .ok (.getfield 10, 3) := by decide +kernel
theorem dX5_law_4 : decode cX5_law 4 = .ok (.iload_n 1, 1) := by decide +kernel
theorem dX5_law_5 : decode cX5_law 5 = .ok (.invokevirtual 143, 3) := by decide +kernel
theorem dX5_law_8 : decode cX5_law 8 = .ok (.ifCond .eq 12, 3) := by decide +kernel
theorem dX5_law_11 : decode cX5_law 11 = .ok (.iload_n 2, 1) := by decide +kernel
theorem dX5_law_12 : decode cX5_law 12 = .ok (.ifCond .lt 8, 3) := by decide +kernel
theorem dX5_law_15 : decode cX5_law 15 = .ok (.iload_n 2, 1) := by decide +kernel
theorem dX5_law_16 : decode cX5_law 16 = .ok (.iconst 1, 1) := by decide +kernel
theorem dX5_law_17 : decode cX5_law 17 = .ok (.if_icmp .le 6, 3) := by decide +kernel
theorem dX5_law_20 : decode cX5_law 20 = .ok (.bipush (-2), 2) := by decide +kernel
theorem dX5_law_22 : decode cX5_law 22 = .ok (.ireturn, 1) := by decide +kernel
theorem dX5_law_23 : decode cX5_law 23 = .ok (.iload_n 2, 1) := by decide +kernel
theorem dX5_law_24 : decode cX5_law 24 = .ok (.ifCond .ne 15, 3) := by decide +kernel
theorem dX5_law_27 : decode cX5_law 27 = .ok (.aload_n 0, 1) := by decide +kernel
theorem dX5_law_28 : decode cX5_law 28 = .ok (.getfield 21, 3) := by decide +kernel
theorem dX5_law_31 : decode cX5_law 31 = .ok (.getfield 153, 3) := by decide +kernel
theorem dX5_law_34 : decode cX5_law 34 = .ok (.iload_n 1, 1) := by decide +kernel
theorem dX5_law_35 : decode cX5_law 35 = .ok (.iaload, 1) := by decide +kernel
theorem dX5_law_36 : decode cX5_law 36 = .ok (.goto 11, 3) := by decide +kernel
theorem dX5_law_39 : decode cX5_law 39 = .ok (.aload_n 0, 1) := by decide +kernel
theorem dX5_law_40 : decode cX5_law 40 = .ok (.getfield 21, 3) := by decide +kernel
theorem dX5_law_43 : decode cX5_law 43 = .ok (.iload_n 1, 1) := by decide +kernel
theorem dX5_law_44 : decode cX5_law 44 = .ok (.invokevirtual 156, 3) := by decide +kernel
theorem dX5_law_47 : decode cX5_law 47 = .ok (.ireturn, 1) := by decide +kernel
set_option maxRecDepth 20000 in
theorem ggX5_open_X0_hasKind : GoodIn wsX5_open wsX0_hasKind := goodIn_r _ [7, 8, 9, 24, 25, 26, 27, 28, 29, 30, 31, 32, 33, 34] (by decide +kernel) (by decide +kernel)
set_option maxRecDepth 20000 in
theorem gX5_open_X0_hasKind : GoodIn wsX5_open (wsV RX5 143 RX0 yX0_hasKind wsX0_hasKind) := goodIn_app (goodIn_of _ (by decide +kernel)) ggX5_open_X0_hasKind
set_option maxRecDepth 20000 in
theorem ggX5_open_X3_covers : GoodIn wsX5_open wsX3_covers := goodIn_r _ [14, 15, 35, 36] (by decide +kernel) (by decide +kernel)
set_option maxRecDepth 20000 in
theorem gX5_open_X3_covers : GoodIn wsX5_open (wsV RX5 162 RX3 yX3_covers wsX3_covers) := goodIn_app (goodIn_of _ (by decide +kernel)) ggX5_open_X3_covers
theorem dX5_open_0 : decode cX5_open 0 = .ok (.iconst 0, 1) := by decide +kernel
theorem dX5_open_1 : decode cX5_open 1 = .ok (.istore_n 2, 1) := by decide +kernel
theorem dX5_open_2 : decode cX5_open 2 = .ok (.iconst 0, 1) := by decide +kernel
theorem dX5_open_3 : decode cX5_open 3 = .ok (.istore_n 3, 1) := by decide +kernel
theorem dX5_open_4 : decode cX5_open 4 = .ok (.iload_n 3, 1) := by decide +kernel
theorem dX5_open_5 : decode cX5_open 5 = .ok (.aload_n 0, 1) := by decide +kernel
theorem dX5_open_6 : decode cX5_open 6 = .ok (.getfield 10, 3) := by decide +kernel
theorem dX5_open_9 : decode cX5_open 9 = .ok (.getfield 159, 3) := by decide +kernel
theorem dX5_open_12 : decode cX5_open 12 = .ok (.if_icmp .ge 41, 3) := by decide +kernel
theorem dX5_open_15 : decode cX5_open 15 = .ok (.aload_n 0, 1) := by decide +kernel
theorem dX5_open_16 : decode cX5_open 16 = .ok (.getfield 10, 3) := by decide +kernel
theorem dX5_open_19 : decode cX5_open 19 = .ok (.iload_n 3, 1) := by decide +kernel
theorem dX5_open_20 : decode cX5_open 20 = .ok (.invokevirtual 143, 3) := by decide +kernel
theorem dX5_open_23 : decode cX5_open 23 = .ok (.ifCond .eq 24, 3) := by decide +kernel
theorem dX5_open_26 : decode cX5_open 26 = .ok (.aload_n 0, 1) := by decide +kernel
theorem dX5_open_27 : decode cX5_open 27 = .ok (.getfield 21, 3) := by decide +kernel
theorem dX5_open_30 : decode cX5_open 30 = .ok (.iload_n 3, 1) := by decide +kernel
theorem dX5_open_31 : decode cX5_open 31 = .ok (.invokevirtual 162, 3) := by decide +kernel
theorem dX5_open_34 : decode cX5_open 34 = .ok (.ifCond .ne 13, 3) := by decide +kernel
theorem dX5_open_37 : decode cX5_open 37 = .ok (.iload_n 2, 1) := by decide +kernel
theorem dX5_open_38 : decode cX5_open 38 = .ok (.iload_n 1, 1) := by decide +kernel
theorem dX5_open_39 : decode cX5_open 39 = .ok (.if_icmp .ne 5, 3) := by decide +kernel
theorem dX5_open_42 : decode cX5_open 42 = .ok (.iload_n 3, 1) := by decide +kernel
theorem dX5_open_43 : decode cX5_open 43 = .ok (.ireturn, 1) := by decide +kernel
theorem dX5_open_44 : decode cX5_open 44 = .ok (.iinc 2 1, 3) := by decide +kernel
theorem dX5_open_47 : decode cX5_open 47 = .ok (.iinc 3 1, 3) := by decide +kernel
theorem dX5_open_50 : decode cX5_open 50 = .ok (.goto (-46), 3) := by decide +kernel
theorem dX5_open_53 : decode cX5_open 53 = .ok (.iload_n 1, 1) := by decide +kernel
theorem dX5_open_54 : decode cX5_open 54 = .ok (.iconst (-1), 1) := by decide +kernel
theorem dX5_open_55 : decode cX5_open 55 = .ok (.if_icmp .ne 7, 3) := by decide +kernel
theorem dX5_open_58 : decode cX5_open 58 = .ok (.iload_n 2, 1) := by decide +kernel
theorem dX5_open_59 : decode cX5_open 59 = .ok (.goto 5, 3) := by decide +kernel
theorem dX5_open_62 : decode cX5_open 62 = .ok (.bipush (-6), 2) := by decide +kernel
theorem dX5_open_64 : decode cX5_open 64 = .ok (.ireturn, 1) := by decide +kernel
set_option maxRecDepth 20000 in
theorem ggX5_idle_X0_hasLine : GoodIn wsX5_idle wsX0_hasLine := goodIn_r _ [7, 8, 70, 71, 72, 73, 74, 75, 76, 77, 78, 79, 80] (by decide +kernel) (by decide +kernel)
set_option maxRecDepth 20000 in
theorem gX5_idle_X0_hasLine : GoodIn wsX5_idle (wsV RX5 105 RX0 yX0_hasLine wsX0_hasLine) := goodIn_app (goodIn_of _ (by decide +kernel)) ggX5_idle_X0_hasLine
set_option maxRecDepth 20000 in
theorem ggX5_idle_X0_repealedIfMended : GoodIn wsX5_idle wsX0_repealedIfMended := goodIn_r _ [12, 13, 70, 71, 72, 73, 74, 75, 76, 77, 78, 79, 80] (by decide +kernel) (by decide +kernel)
set_option maxRecDepth 20000 in
theorem gX5_idle_X0_repealedIfMended : GoodIn wsX5_idle (wsV RX5 128 RX0 yX0_repealedIfMended wsX0_repealedIfMended) := goodIn_app (goodIn_of _ (by decide +kernel)) ggX5_idle_X0_repealedIfMended
set_option maxRecDepth 20000 in
theorem ggX5_idle_X3_work : GoodIn wsX5_idle wsX3_work := goodIn_r _ [18, 19, 20, 21, 22, 23, 6, 24, 25, 8, 26, 27, 28, 29, 30, 31, 32, 33, 34, 35, 81, 82, 70, 71, 72, 73, 74, 75, 76, 77, 78, 79, 80] (by decide +kernel) (by decide +kernel)
set_option maxRecDepth 20000 in
theorem gX5_idle_X3_work : GoodIn wsX5_idle (wsV RX5 70 RX3 yX3_work wsX3_work) := goodIn_app (goodIn_of _ (by decide +kernel)) ggX5_idle_X3_work
set_option maxRecDepth 20000 in
theorem ggX5_idle_X5_turnedKinds : GoodIn wsX5_idle wsX5_turnedKinds := goodIn_r _ [39, 1, 40, 2, 41, 42, 43, 6, 44, 45, 46, 47, 48, 49, 17, 50, 51, 52, 53, 54, 19, 20, 55, 56, 57, 58, 62, 63, 64, 65, 66, 67, 68, 69, 70, 71, 72, 73, 74, 75, 76, 77, 78, 79, 80, 81, 82] (by decide +kernel) (by decide +kernel)
set_option maxRecDepth 20000 in
theorem gX5_idle_X5_turnedKinds : GoodIn wsX5_idle (wsV RX5 165 RX5 yX5_turnedKinds wsX5_turnedKinds) := goodIn_app (goodIn_of _ (by decide +kernel)) ggX5_idle_X5_turnedKinds
set_option maxRecDepth 20000 in
theorem ggX5_idle_X5_oneIf : GoodIn wsX5_idle wsX5_oneIf := goodIn_r _ [61] (by decide +kernel) (by decide +kernel)
set_option maxRecDepth 20000 in
theorem gX5_idle_X5_oneIf : GoodIn wsX5_idle (va_wsS RX5 88 yX5_oneIf wsX5_oneIf) := goodIn_app (goodIn_of _ (by decide +kernel)) ggX5_idle_X5_oneIf
theorem dX5_idle_0 : decode cX5_idle 0 = .ok (.aload_n 0, 1) := by decide +kernel
theorem dX5_idle_1 : decode cX5_idle 1 = .ok (.getfield 10, 3) := by decide +kernel
theorem dX5_idle_4 : decode cX5_idle 4 = .ok (.iload_n 1, 1) := by decide +kernel
theorem dX5_idle_5 : decode cX5_idle 5 = .ok (.invokevirtual 105, 3) := by decide +kernel
theorem dX5_idle_8 : decode cX5_idle 8 = .ok (.ifCond .ne 5, 3) := by decide +kernel
theorem dX5_idle_11 : decode cX5_idle 11 = .ok (.iconst (-1), 1) := by decide +kernel
theorem dX5_idle_12 : decode cX5_idle 12 = .ok (.ireturn, 1) := by decide +kernel
theorem dX5_idle_13 : decode cX5_idle 13 = .ok (.aload_n 0, 1) := by decide +kernel
theorem dX5_idle_14 : decode cX5_idle 14 = .ok (.getfield 25, 3) := by decide +kernel
theorem dX5_idle_17 : decode cX5_idle 17 = .ok (.aload_n 0, 1) := by decide +kernel
theorem dX5_idle_18 : decode cX5_idle 18 = .ok (.getfield 10, 3) := by decide +kernel
theorem dX5_idle_21 : decode cX5_idle 21 = .ok (.iload_n 1, 1) := by decide +kernel
theorem dX5_idle_22 : decode cX5_idle 22 = .ok (.invokevirtual 128, 3) := by decide +kernel
theorem dX5_idle_25 : decode cX5_idle 25 = .ok (.invokevirtual 70, 3) := by decide +kernel
theorem dX5_idle_28 : decode cX5_idle 28 = .ok (.aload_n 0, 1) := by decide +kernel
theorem dX5_idle_29 : decode cX5_idle 29 = .ok (.invokevirtual 165, 3) := by decide +kernel
theorem dX5_idle_32 : decode cX5_idle 32 = .ok (.ifCond .ne 7, 3) := by decide +kernel
theorem dX5_idle_35 : decode cX5_idle 35 = .ok (.iconst 1, 1) := by decide +kernel
theorem dX5_idle_36 : decode cX5_idle 36 = .ok (.goto 4, 3) := by decide +kernel
theorem dX5_idle_39 : decode cX5_idle 39 = .ok (.iconst 0, 1) := by decide +kernel
theorem dX5_idle_40 : decode cX5_idle 40 = .ok (.invokestatic 88, 3) := by decide +kernel
theorem dX5_idle_43 : decode cX5_idle 43 = .ok (.ireturn, 1) := by decide +kernel
set_option maxRecDepth 20000 in
theorem ggX5_moment_X4_add : GoodIn wsX5_moment wsX4_add := goodIn_r _ [6, 7, 8, 9, 10, 19, 20, 21, 22] (by decide +kernel) (by decide +kernel)
set_option maxRecDepth 20000 in
theorem gX5_moment_X4_add : GoodIn wsX5_moment (wsV RX5 169 RX4 yX4_add wsX4_add) := goodIn_app (goodIn_of _ (by decide +kernel)) ggX5_moment_X4_add
theorem dX5_moment_0 : decode cX5_moment 0 = .ok (.aload_n 0, 1) := by decide +kernel
theorem dX5_moment_1 : decode cX5_moment 1 = .ok (.getfield 31, 3) := by decide +kernel
theorem dX5_moment_4 : decode cX5_moment 4 = .ok (.getfield 63, 3) := by decide +kernel
theorem dX5_moment_7 : decode cX5_moment 7 = .ok (.bipush 30, 2) := by decide +kernel
theorem dX5_moment_9 : decode cX5_moment 9 = .ok (.if_icmp .lt 6, 3) := by decide +kernel
theorem dX5_moment_12 : decode cX5_moment 12 = .ok (.bipush (-4), 2) := by decide +kernel
theorem dX5_moment_14 : decode cX5_moment 14 = .ok (.ireturn, 1) := by decide +kernel
theorem dX5_moment_15 : decode cX5_moment 15 = .ok (.aload_n 0, 1) := by decide +kernel
theorem dX5_moment_16 : decode cX5_moment 16 = .ok (.getfield 31, 3) := by decide +kernel
theorem dX5_moment_19 : decode cX5_moment 19 = .ok (.invokevirtual 169, 3) := by decide +kernel
theorem dX5_moment_22 : decode cX5_moment 22 = .ok (.ireturn, 1) := by decide +kernel
set_option maxRecDepth 20000 in
theorem ggX5_tell_X4_has : GoodIn wsX5_tell wsX4_has := goodIn_r _ [7, 8, 32, 33, 34, 35] (by decide +kernel) (by decide +kernel)
set_option maxRecDepth 20000 in
theorem gX5_tell_X4_has : GoodIn wsX5_tell (wsV RX5 172 RX4 yX4_has wsX4_has) := goodIn_app (goodIn_of _ (by decide +kernel)) ggX5_tell_X4_has
set_option maxRecDepth 20000 in
theorem ggX5_tell_X0_hasFact : GoodIn wsX5_tell wsX0_hasFact := goodIn_r _ [13, 14, 36, 37, 38, 39, 40, 41, 42, 43, 44, 45, 46] (by decide +kernel) (by decide +kernel)
set_option maxRecDepth 20000 in
theorem gX5_tell_X0_hasFact : GoodIn wsX5_tell (wsV RX5 76 RX0 yX0_hasFact wsX0_hasFact) := goodIn_app (goodIn_of _ (by decide +kernel)) ggX5_tell_X0_hasFact
set_option maxRecDepth 20000 in
theorem ggX5_tell_X4_hear : GoodIn wsX5_tell wsX4_hear := goodIn_r _ [18, 19, 20, 21, 22, 23, 32, 33, 34, 35] (by decide +kernel) (by decide +kernel)
set_option maxRecDepth 20000 in
theorem gX5_tell_X4_hear : GoodIn wsX5_tell (wsV RX5 175 RX4 yX4_hear wsX4_hear) := goodIn_app (goodIn_of _ (by decide +kernel)) ggX5_tell_X4_hear
theorem dX5_tell_0 : decode cX5_tell 0 = .ok (.aload_n 0, 1) := by decide +kernel
theorem dX5_tell_1 : decode cX5_tell 1 = .ok (.getfield 31, 3) := by decide +kernel
theorem dX5_tell_4 : decode cX5_tell 4 = .ok (.iload_n 1, 1) := by decide +kernel
theorem dX5_tell_5 : decode cX5_tell 5 = .ok (.invokevirtual 172, 3) := by decide +kernel
theorem dX5_tell_8 : decode cX5_tell 8 = .ok (.ifCond .eq 14, 3) := by decide +kernel
theorem dX5_tell_11 : decode cX5_tell 11 = .ok (.aload_n 0, 1) := by decide +kernel
theorem dX5_tell_12 : decode cX5_tell 12 = .ok (.getfield 10, 3) := by decide +kernel
theorem dX5_tell_15 : decode cX5_tell 15 = .ok (.iload_n 3, 1) := by decide +kernel
theorem dX5_tell_16 : decode cX5_tell 16 = .ok (.invokevirtual 76, 3) := by decide +kernel
theorem dX5_tell_19 : decode cX5_tell 19 = .ok (.ifCond .ne 5, 3) := by decide +kernel
theorem dX5_tell_22 : decode cX5_tell 22 = .ok (.iconst (-1), 1) := by decide +kernel
theorem dX5_tell_23 : decode cX5_tell 23 = .ok (.ireturn, 1) := by decide +kernel
theorem dX5_tell_24 : decode cX5_tell 24 = .ok (.iload_n 2, 1) := by decide +kernel
theorem dX5_tell_25 : decode cX5_tell 25 = .ok (.ifCond .lt 19, 3) := by decide +kernel
theorem dX5_tell_28 : decode cX5_tell 28 = .ok (.iload_n 2, 1) := by decide +kernel
theorem dX5_tell_29 : decode cX5_tell 29 = .ok (.iconst 3, 1) := by decide +kernel
theorem dX5_tell_30 : decode cX5_tell 30 = .ok (.if_icmp .ge 14, 3) := by decide +kernel
theorem dX5_tell_33 : decode cX5_tell 33 = .ok (.iload 4, 2) := by decide +kernel
theorem dX5_tell_35 : decode cX5_tell 35 = .ok (.ifCond .lt 9, 3) := by decide +kernel
theorem dX5_tell_38 : decode cX5_tell 38 = .ok (.iload 4, 2) := by decide +kernel
theorem dX5_tell_40 : decode cX5_tell 40 = .ok (.iconst 2, 1) := by decide +kernel
theorem dX5_tell_41 : decode cX5_tell 41 = .ok (.if_icmp .le 6, 3) := by decide +kernel
theorem dX5_tell_44 : decode cX5_tell 44 = .ok (.bipush (-2), 2) := by decide +kernel
theorem dX5_tell_46 : decode cX5_tell 46 = .ok (.ireturn, 1) := by decide +kernel
theorem dX5_tell_47 : decode cX5_tell 47 = .ok (.aload_n 0, 1) := by decide +kernel
theorem dX5_tell_48 : decode cX5_tell 48 = .ok (.getfield 31, 3) := by decide +kernel
theorem dX5_tell_51 : decode cX5_tell 51 = .ok (.iload_n 1, 1) := by decide +kernel
theorem dX5_tell_52 : decode cX5_tell 52 = .ok (.iload_n 2, 1) := by decide +kernel
theorem dX5_tell_53 : decode cX5_tell 53 = .ok (.iload_n 3, 1) := by decide +kernel
theorem dX5_tell_54 : decode cX5_tell 54 = .ok (.iload 4, 2) := by decide +kernel
theorem dX5_tell_56 : decode cX5_tell 56 = .ok (.invokevirtual 175, 3) := by decide +kernel
theorem dX5_tell_59 : decode cX5_tell 59 = .ok (.ireturn, 1) := by decide +kernel
set_option maxRecDepth 20000 in
theorem ggX5_known_X4_has : GoodIn wsX5_known wsX4_has := goodIn_r _ [7, 8, 45, 46, 47, 48] (by decide +kernel) (by decide +kernel)
set_option maxRecDepth 20000 in
theorem gX5_known_X4_has : GoodIn wsX5_known (wsV RX5 172 RX4 yX4_has wsX4_has) := goodIn_app (goodIn_of _ (by decide +kernel)) ggX5_known_X4_has
set_option maxRecDepth 20000 in
theorem ggX5_known_X4_knownSo : GoodIn wsX5_known wsX4_knownSo := goodIn_r _ [12, 13, 14, 15, 16, 6, 17, 45, 46, 47, 48] (by decide +kernel) (by decide +kernel)
set_option maxRecDepth 20000 in
theorem gX5_known_X4_knownSo : GoodIn wsX5_known (wsV RX5 179 RX4 yX4_knownSo wsX4_knownSo) := goodIn_app (goodIn_of _ (by decide +kernel)) ggX5_known_X4_knownSo
set_option maxRecDepth 20000 in
theorem ggX5_known_X4_knownNotSo : GoodIn wsX5_known wsX4_knownNotSo := goodIn_r _ [21, 14, 13, 15, 16, 6, 17, 45, 46, 47, 48] (by decide +kernel) (by decide +kernel)
set_option maxRecDepth 20000 in
theorem gX5_known_X4_knownNotSo : GoodIn wsX5_known (wsV RX5 182 RX4 yX4_knownNotSo wsX4_knownNotSo) := goodIn_app (goodIn_of _ (by decide +kernel)) ggX5_known_X4_knownNotSo
set_option maxRecDepth 20000 in
theorem ggX5_known_X0_allFacts : GoodIn wsX5_known wsX0_allFacts := goodIn_r _ [26, 27, 49, 50, 51, 52, 53, 54, 55, 56, 57, 58, 59] (by decide +kernel) (by decide +kernel)
set_option maxRecDepth 20000 in
theorem gX5_known_X0_allFacts : GoodIn wsX5_known (wsV RX5 185 RX0 yX0_allFacts wsX0_allFacts) := goodIn_app (goodIn_of _ (by decide +kernel)) ggX5_known_X0_allFacts
set_option maxRecDepth 20000 in
theorem ggX5_known_X0_countMayBe : GoodIn wsX5_known wsX0_countMayBe := goodIn_r _ [31, 27, 32, 33, 34, 25, 35, 36, 49, 50, 51, 52, 53, 54, 55, 56, 57, 58, 59] (by decide +kernel) (by decide +kernel)
set_option maxRecDepth 20000 in
theorem gX5_known_X0_countMayBe : GoodIn wsX5_known (wsV RX5 188 RX0 yX0_countMayBe wsX0_countMayBe) := goodIn_app (goodIn_of _ (by decide +kernel)) ggX5_known_X0_countMayBe
theorem dX5_known_0 : decode cX5_known 0 = .ok (.aload_n 0, 1) := by decide +kernel
theorem dX5_known_1 : decode cX5_known 1 = .ok (.getfield 31, 3) := by decide +kernel
theorem dX5_known_4 : decode cX5_known 4 = .ok (.iload_n 1, 1) := by decide +kernel
theorem dX5_known_5 : decode cX5_known 5 = .ok (.invokevirtual 172, 3) := by decide +kernel
theorem dX5_known_8 : decode cX5_known 8 = .ok (.ifCond .ne 5, 3) := by decide +kernel
theorem dX5_known_11 : decode cX5_known 11 = .ok (.iconst (-1), 1) := by decide +kernel
theorem dX5_known_12 : decode cX5_known 12 = .ok (.ireturn, 1) := by decide +kernel
theorem dX5_known_13 : decode cX5_known 13 = .ok (.aload_n 0, 1) := by decide +kernel
theorem dX5_known_14 : decode cX5_known 14 = .ok (.getfield 31, 3) := by decide +kernel
theorem dX5_known_17 : decode cX5_known 17 = .ok (.iload_n 1, 1) := by decide +kernel
theorem dX5_known_18 : decode cX5_known 18 = .ok (.invokevirtual 179, 3) := by decide +kernel
theorem dX5_known_21 : decode cX5_known 21 = .ok (.istore_n 3, 1) := by decide +kernel
theorem dX5_known_22 : decode cX5_known 22 = .ok (.aload_n 0, 1) := by decide +kernel
theorem dX5_known_23 : decode cX5_known 23 = .ok (.getfield 31, 3) := by decide +kernel
theorem dX5_known_26 : decode cX5_known 26 = .ok (.iload_n 1, 1) := by decide +kernel
theorem dX5_known_27 : decode cX5_known 27 = .ok (.invokevirtual 182, 3) := by decide +kernel
theorem dX5_known_30 : decode cX5_known 30 = .ok (.istore 4, 2) := by decide +kernel
theorem dX5_known_32 : decode cX5_known 32 = .ok (.iload_n 2, 1) := by decide +kernel
theorem dX5_known_33 : decode cX5_known 33 = .ok (.tableswitch 62 0 3 #[31, 33, 36, 51], 31) := by decide +kernel
theorem dX5_known_64 : decode cX5_known 64 = .ok (.iload_n 3, 1) := by decide +kernel
theorem dX5_known_65 : decode cX5_known 65 = .ok (.ireturn, 1) := by decide +kernel
theorem dX5_known_66 : decode cX5_known 66 = .ok (.iload 4, 2) := by decide +kernel
theorem dX5_known_68 : decode cX5_known 68 = .ok (.ireturn, 1) := by decide +kernel
theorem dX5_known_69 : decode cX5_known 69 = .ok (.aload_n 0, 1) := by decide +kernel
theorem dX5_known_70 : decode cX5_known 70 = .ok (.getfield 10, 3) := by decide +kernel
theorem dX5_known_73 : decode cX5_known 73 = .ok (.invokevirtual 185, 3) := by decide +kernel
theorem dX5_known_76 : decode cX5_known 76 = .ok (.iload_n 3, 1) := by decide +kernel
theorem dX5_known_77 : decode cX5_known 77 = .ok (.iload 4, 2) := by decide +kernel
theorem dX5_known_79 : decode cX5_known 79 = .ok (.ior, 1) := by decide +kernel
theorem dX5_known_80 : decode cX5_known 80 = .ok (.iconst (-1), 1) := by decide +kernel
theorem dX5_known_81 : decode cX5_known 81 = .ok (.ixor, 1) := by decide +kernel
theorem dX5_known_82 : decode cX5_known 82 = .ok (.iand, 1) := by decide +kernel
theorem dX5_known_83 : decode cX5_known 83 = .ok (.ireturn, 1) := by decide +kernel
theorem dX5_known_84 : decode cX5_known 84 = .ok (.aload_n 0, 1) := by decide +kernel
theorem dX5_known_85 : decode cX5_known 85 = .ok (.getfield 10, 3) := by decide +kernel
theorem dX5_known_88 : decode cX5_known 88 = .ok (.iload_n 3, 1) := by decide +kernel
theorem dX5_known_89 : decode cX5_known 89 = .ok (.iload 4, 2) := by decide +kernel
theorem dX5_known_91 : decode cX5_known 91 = .ok (.invokevirtual 188, 3) := by decide +kernel
theorem dX5_known_94 : decode cX5_known 94 = .ok (.ireturn, 1) := by decide +kernel
theorem dX5_known_95 : decode cX5_known 95 = .ok (.bipush (-2), 2) := by decide +kernel
theorem dX5_known_97 : decode cX5_known 97 = .ok (.ireturn, 1) := by decide +kernel
set_option maxRecDepth 20000 in
theorem ggX5_proof_X4_has : GoodIn wsX5_proof wsX4_has := goodIn_r _ [8, 9, 62, 63, 64, 65] (by decide +kernel) (by decide +kernel)
set_option maxRecDepth 20000 in
theorem gX5_proof_X4_has : GoodIn wsX5_proof (wsV RX5 172 RX4 yX4_has wsX4_has) := goodIn_app (goodIn_of _ (by decide +kernel)) ggX5_proof_X4_has
set_option maxRecDepth 20000 in
theorem ggX5_proof_X5_isRuling : GoodIn wsX5_proof wsX5_isRuling := goodIn_r _ [13] (by decide +kernel) (by decide +kernel)
set_option maxRecDepth 20000 in
theorem gX5_proof_X5_isRuling : GoodIn wsX5_proof (va_wsS RX5 95 yX5_isRuling wsX5_isRuling) := goodIn_app (goodIn_of _ (by decide +kernel)) ggX5_proof_X5_isRuling
set_option maxRecDepth 20000 in
theorem ggX5_proof_X4_knownSo : GoodIn wsX5_proof wsX4_knownSo := goodIn_r _ [17, 18, 19, 20, 21, 7, 22, 62, 63, 64, 65] (by decide +kernel) (by decide +kernel)
set_option maxRecDepth 20000 in
theorem gX5_proof_X4_knownSo : GoodIn wsX5_proof (wsV RX5 179 RX4 yX4_knownSo wsX4_knownSo) := goodIn_app (goodIn_of _ (by decide +kernel)) ggX5_proof_X4_knownSo
set_option maxRecDepth 20000 in
theorem ggX5_proof_X4_knownNotSo : GoodIn wsX5_proof wsX4_knownNotSo := goodIn_r _ [26, 19, 18, 20, 21, 7, 22, 62, 63, 64, 65] (by decide +kernel) (by decide +kernel)
set_option maxRecDepth 20000 in
theorem gX5_proof_X4_knownNotSo : GoodIn wsX5_proof (wsV RX5 182 RX4 yX4_knownNotSo wsX4_knownNotSo) := goodIn_app (goodIn_of _ (by decide +kernel)) ggX5_proof_X4_knownNotSo
set_option maxRecDepth 20000 in
theorem ggX5_proof_X3_countMayBeRuled : GoodIn wsX5_proof wsX3_countMayBeRuled := goodIn_r _ [31, 32, 33, 34, 35, 36, 37, 38, 39, 40, 41, 30, 42, 43, 44, 45, 46, 47, 66, 67, 68, 69, 70, 71, 72, 73, 74, 75, 76, 77, 78] (by decide +kernel) (by decide +kernel)
set_option maxRecDepth 20000 in
theorem gX5_proof_X3_countMayBeRuled : GoodIn wsX5_proof (wsV RX5 191 RX3 yX3_countMayBeRuled wsX3_countMayBeRuled) := goodIn_app (goodIn_of _ (by decide +kernel)) ggX5_proof_X3_countMayBeRuled
set_option maxRecDepth 20000 in
theorem ggX5_proof_X0_countMayBe : GoodIn wsX5_proof wsX0_countMayBe := goodIn_r _ [51, 52, 53, 34, 35, 36, 37, 38, 68, 69, 70, 71, 72, 73, 74, 75, 76, 77, 78] (by decide +kernel) (by decide +kernel)
set_option maxRecDepth 20000 in
theorem gX5_proof_X0_countMayBe : GoodIn wsX5_proof (wsV RX5 188 RX0 yX0_countMayBe wsX0_countMayBe) := goodIn_app (goodIn_of _ (by decide +kernel)) ggX5_proof_X0_countMayBe
theorem dX5_proof_0 : decode cX5_proof 0 = .ok (.aload_n 0, 1) := by decide +kernel
theorem dX5_proof_1 : decode cX5_proof 1 = .ok (.getfield 31, 3) := by decide +kernel
theorem dX5_proof_4 : decode cX5_proof 4 = .ok (.iload_n 1, 1) := by decide +kernel
theorem dX5_proof_5 : decode cX5_proof 5 = .ok (.invokevirtual 172, 3) := by decide +kernel
theorem dX5_proof_8 : decode cX5_proof 8 = .ok (.ifCond .ne 5, 3) := by decide +kernel
theorem dX5_proof_11 : decode cX5_proof 11 = .ok (.iconst (-1), 1) := by decide +kernel
theorem dX5_proof_12 : decode cX5_proof 12 = .ok (.ireturn, 1) := by decide +kernel
theorem dX5_proof_13 : decode cX5_proof 13 = .ok (.iload_n 2, 1) := by decide +kernel
theorem dX5_proof_14 : decode cX5_proof 14 = .ok (.invokestatic 95, 3) := by decide +kernel
theorem dX5_proof_17 : decode cX5_proof 17 = .ok (.ifCond .ne 6, 3) := by decide +kernel
theorem dX5_proof_20 : decode cX5_proof 20 = .ok (.bipush (-2), 2) := by decide +kernel
theorem dX5_proof_22 : decode cX5_proof 22 = .ok (.ireturn, 1) := by decide +kernel
theorem dX5_proof_23 : decode cX5_proof 23 = .ok (.aload_n 0, 1) := by decide +kernel
theorem dX5_proof_24 : decode cX5_proof 24 = .ok (.getfield 31, 3) := by decide +kernel
theorem dX5_proof_27 : decode cX5_proof 27 = .ok (.iload_n 1, 1) := by decide +kernel
theorem dX5_proof_28 : decode cX5_proof 28 = .ok (.invokevirtual 179, 3) := by decide +kernel
theorem dX5_proof_31 : decode cX5_proof 31 = .ok (.istore_n 3, 1) := by decide +kernel
theorem dX5_proof_32 : decode cX5_proof 32 = .ok (.aload_n 0, 1) := by decide +kernel
theorem dX5_proof_33 : decode cX5_proof 33 = .ok (.getfield 31, 3) := by decide +kernel
theorem dX5_proof_36 : decode cX5_proof 36 = .ok (.iload_n 1, 1) := by decide +kernel
theorem dX5_proof_37 : decode cX5_proof 37 = .ok (.invokevirtual 182, 3) := by decide +kernel
theorem dX5_proof_40 : decode cX5_proof 40 = .ok (.istore 4, 2) := by decide +kernel
theorem dX5_proof_42 : decode cX5_proof 42 = .ok (.aload_n 0, 1) := by decide +kernel
theorem dX5_proof_43 : decode cX5_proof 43 = .ok (.getfield 21, 3) := by decide +kernel
theorem dX5_proof_46 : decode cX5_proof 46 = .ok (.iload_n 3, 1) := by decide +kernel
theorem dX5_proof_47 : decode cX5_proof 47 = .ok (.iload 4, 2) := by decide +kernel
theorem dX5_proof_49 : decode cX5_proof 49 = .ok (.iload_n 2, 1) := by decide +kernel
theorem dX5_proof_50 : decode cX5_proof 50 = .ok (.invokevirtual 191, 3) := by decide +kernel
theorem dX5_proof_53 : decode cX5_proof 53 = .ok (.istore 5, 2) := by decide +kernel
theorem dX5_proof_55 : decode cX5_proof 55 = .ok (.iload 5, 2) := by decide +kernel
theorem dX5_proof_57 : decode cX5_proof 57 = .ok (.ifCond .ne 5, 3) := by decide +kernel
theorem dX5_proof_60 : decode cX5_proof 60 = .ok (.iconst 0, 1) := by decide +kernel
theorem dX5_proof_61 : decode cX5_proof 61 = .ok (.ireturn, 1) := by decide +kernel
theorem dX5_proof_62 : decode cX5_proof 62 = .ok (.iload 5, 2) := by decide +kernel
theorem dX5_proof_64 : decode cX5_proof 64 = .ok (.aload_n 0, 1) := by decide +kernel
theorem dX5_proof_65 : decode cX5_proof 65 = .ok (.getfield 10, 3) := by decide +kernel
theorem dX5_proof_68 : decode cX5_proof 68 = .ok (.iload_n 3, 1) := by decide +kernel
theorem dX5_proof_69 : decode cX5_proof 69 = .ok (.iload 4, 2) := by decide +kernel
theorem dX5_proof_71 : decode cX5_proof 71 = .ok (.invokevirtual 188, 3) := by decide +kernel
theorem dX5_proof_74 : decode cX5_proof 74 = .ok (.if_icmp .ne 7, 3) := by decide +kernel
theorem dX5_proof_77 : decode cX5_proof 77 = .ok (.iconst 2, 1) := by decide +kernel
theorem dX5_proof_78 : decode cX5_proof 78 = .ok (.goto 4, 3) := by decide +kernel
theorem dX5_proof_81 : decode cX5_proof 81 = .ok (.iconst 1, 1) := by decide +kernel
theorem dX5_proof_82 : decode cX5_proof 82 = .ok (.ireturn, 1) := by decide +kernel
set_option maxRecDepth 20000 in
theorem ggX5_binds_X4_has : GoodIn wsX5_binds wsX4_has := goodIn_r _ [7, 8, 38, 39, 40, 41] (by decide +kernel) (by decide +kernel)
set_option maxRecDepth 20000 in
theorem gX5_binds_X4_has : GoodIn wsX5_binds (wsV RX5 172 RX4 yX4_has wsX4_has) := goodIn_app (goodIn_of _ (by decide +kernel)) ggX5_binds_X4_has
set_option maxRecDepth 20000 in
theorem ggX5_binds_X4_knownSo : GoodIn wsX5_binds wsX4_knownSo := goodIn_r _ [12, 13, 14, 15, 16, 6, 17, 38, 39, 40, 41] (by decide +kernel) (by decide +kernel)
set_option maxRecDepth 20000 in
theorem gX5_binds_X4_knownSo : GoodIn wsX5_binds (wsV RX5 179 RX4 yX4_knownSo wsX4_knownSo) := goodIn_app (goodIn_of _ (by decide +kernel)) ggX5_binds_X4_knownSo
set_option maxRecDepth 20000 in
theorem ggX5_binds_X4_knownNotSo : GoodIn wsX5_binds wsX4_knownNotSo := goodIn_r _ [21, 14, 13, 15, 16, 6, 17, 38, 39, 40, 41] (by decide +kernel) (by decide +kernel)
set_option maxRecDepth 20000 in
theorem gX5_binds_X4_knownNotSo : GoodIn wsX5_binds (wsV RX5 182 RX4 yX4_knownNotSo wsX4_knownNotSo) := goodIn_app (goodIn_of _ (by decide +kernel)) ggX5_binds_X4_knownNotSo
set_option maxRecDepth 20000 in
theorem ggX5_binds_X1_firstThatBinds : GoodIn wsX5_binds wsX1_firstThatBinds := goodIn_r _ [26, 27, 28, 29, 42, 43, 44, 45] (by decide +kernel) (by decide +kernel)
set_option maxRecDepth 20000 in
theorem gX5_binds_X1_firstThatBinds : GoodIn wsX5_binds (wsV RX5 194 RX1 yX1_firstThatBinds wsX1_firstThatBinds) := goodIn_app (goodIn_of _ (by decide +kernel)) ggX5_binds_X1_firstThatBinds
theorem dX5_binds_0 : decode cX5_binds 0 = .ok (.aload_n 0, 1) := by decide +kernel
theorem dX5_binds_1 : decode cX5_binds 1 = .ok (.getfield 31, 3) := by decide +kernel
theorem dX5_binds_4 : decode cX5_binds 4 = .ok (.iload_n 1, 1) := by decide +kernel
theorem dX5_binds_5 : decode cX5_binds 5 = .ok (.invokevirtual 172, 3) := by decide +kernel
theorem dX5_binds_8 : decode cX5_binds 8 = .ok (.ifCond .ne 5, 3) := by decide +kernel
theorem dX5_binds_11 : decode cX5_binds 11 = .ok (.iconst (-1), 1) := by decide +kernel
theorem dX5_binds_12 : decode cX5_binds 12 = .ok (.ireturn, 1) := by decide +kernel
theorem dX5_binds_13 : decode cX5_binds 13 = .ok (.aload_n 0, 1) := by decide +kernel
theorem dX5_binds_14 : decode cX5_binds 14 = .ok (.getfield 38, 3) := by decide +kernel
theorem dX5_binds_17 : decode cX5_binds 17 = .ok (.aload_n 0, 1) := by decide +kernel
theorem dX5_binds_18 : decode cX5_binds 18 = .ok (.getfield 31, 3) := by decide +kernel
theorem dX5_binds_21 : decode cX5_binds 21 = .ok (.iload_n 1, 1) := by decide +kernel
theorem dX5_binds_22 : decode cX5_binds 22 = .ok (.invokevirtual 179, 3) := by decide +kernel
theorem dX5_binds_25 : decode cX5_binds 25 = .ok (.aload_n 0, 1) := by decide +kernel
theorem dX5_binds_26 : decode cX5_binds 26 = .ok (.getfield 31, 3) := by decide +kernel
theorem dX5_binds_29 : decode cX5_binds 29 = .ok (.iload_n 1, 1) := by decide +kernel
theorem dX5_binds_30 : decode cX5_binds 30 = .ok (.invokevirtual 182, 3) := by decide +kernel
theorem dX5_binds_33 : decode cX5_binds 33 = .ok (.invokevirtual 194, 3) := by decide +kernel
theorem dX5_binds_36 : decode cX5_binds 36 = .ok (.ireturn, 1) := by decide +kernel
set_option maxRecDepth 20000 in
theorem ggX5_verdict_X4_has : GoodIn wsX5_verdict wsX4_has := goodIn_r _ [7, 8, 72, 73, 74, 75] (by decide +kernel) (by decide +kernel)
set_option maxRecDepth 20000 in
theorem gX5_verdict_X4_has : GoodIn wsX5_verdict (wsV RX5 172 RX4 yX4_has wsX4_has) := goodIn_app (goodIn_of _ (by decide +kernel)) ggX5_verdict_X4_has
set_option maxRecDepth 20000 in
theorem ggX5_verdict_X5_verdictUnder : GoodIn wsX5_verdict wsX5_verdictUnder := goodIn_r _ [13, 1, 14, 15, 16, 17, 18, 6, 19, 20, 21, 22, 23, 24, 25, 26, 27, 28, 29, 30, 31, 32, 33, 34, 35, 36, 37, 38, 39, 40, 41, 42, 43, 44, 45, 46, 47, 48, 49, 50, 51, 52, 53, 54, 55, 56, 57, 58, 59, 60, 61, 62, 63, 64, 65, 66, 67, 68, 69, 70, 71, 72, 73, 74, 75, 76, 77, 78, 79, 80, 81, 82, 83, 84, 85, 86, 87, 88, 89, 90, 91, 92] (by decide +kernel) (by decide +kernel)
set_option maxRecDepth 20000 in
theorem gX5_verdict_X5_verdictUnder : GoodIn wsX5_verdict (wsV RX5 197 RX5 yX5_verdictUnder wsX5_verdictUnder) := goodIn_app (goodIn_of _ (by decide +kernel)) ggX5_verdict_X5_verdictUnder
theorem dX5_verdict_0 : decode cX5_verdict 0 = .ok (.aload_n 0, 1) := by decide +kernel
theorem dX5_verdict_1 : decode cX5_verdict 1 = .ok (.getfield 31, 3) := by decide +kernel
theorem dX5_verdict_4 : decode cX5_verdict 4 = .ok (.iload_n 1, 1) := by decide +kernel
theorem dX5_verdict_5 : decode cX5_verdict 5 = .ok (.invokevirtual 172, 3) := by decide +kernel
theorem dX5_verdict_8 : decode cX5_verdict 8 = .ok (.ifCond .ne 5, 3) := by decide +kernel
theorem dX5_verdict_11 : decode cX5_verdict 11 = .ok (.iconst (-1), 1) := by decide +kernel
theorem dX5_verdict_12 : decode cX5_verdict 12 = .ok (.ireturn, 1) := by decide +kernel
theorem dX5_verdict_13 : decode cX5_verdict 13 = .ok (.aload_n 0, 1) := by decide +kernel
theorem dX5_verdict_14 : decode cX5_verdict 14 = .ok (.aload_n 0, 1) := by decide +kernel
theorem dX5_verdict_15 : decode cX5_verdict 15 = .ok (.getfield 21, 3) := by decide +kernel
theorem dX5_verdict_18 : decode cX5_verdict 18 = .ok (.iload_n 1, 1) := by decide +kernel
theorem dX5_verdict_19 : decode cX5_verdict 19 = .ok (.invokevirtual 197, 3) := by decide +kernel
theorem dX5_verdict_22 : decode cX5_verdict 22 = .ok (.ireturn, 1) := by decide +kernel
set_option maxRecDepth 20000 in
theorem ggX5_rule_X4_has : GoodIn wsX5_rule wsX4_has := goodIn_r _ [7, 8, 75, 76, 77, 78] (by decide +kernel) (by decide +kernel)
set_option maxRecDepth 20000 in
theorem gX5_rule_X4_has : GoodIn wsX5_rule (wsV RX5 172 RX4 yX4_has wsX4_has) := goodIn_app (goodIn_of _ (by decide +kernel)) ggX5_rule_X4_has
set_option maxRecDepth 20000 in
theorem ggX5_rule_X5_isRuling : GoodIn wsX5_rule wsX5_isRuling := goodIn_r _ [12] (by decide +kernel) (by decide +kernel)
set_option maxRecDepth 20000 in
theorem gX5_rule_X5_isRuling : GoodIn wsX5_rule (va_wsS RX5 95 yX5_isRuling wsX5_isRuling) := goodIn_app (goodIn_of _ (by decide +kernel)) ggX5_rule_X5_isRuling
set_option maxRecDepth 20000 in
theorem ggX5_rule_X5_verdictUnder : GoodIn wsX5_rule wsX5_verdictUnder := goodIn_r _ [16, 1, 17, 18, 19, 20, 21, 6, 22, 23, 24, 25, 26, 27, 28, 29, 30, 31, 32, 33, 34, 35, 36, 37, 38, 39, 40, 41, 42, 43, 44, 45, 46, 47, 48, 49, 50, 51, 52, 53, 54, 55, 56, 57, 58, 59, 60, 61, 62, 63, 64, 65, 66, 67, 68, 69, 70, 71, 72, 73, 74, 75, 76, 77, 78, 79, 80, 81, 82, 83, 84, 85, 86, 87, 88, 89, 90, 91, 92, 93, 94, 95] (by decide +kernel) (by decide +kernel)
set_option maxRecDepth 20000 in
theorem gX5_rule_X5_verdictUnder : GoodIn wsX5_rule (wsV RX5 197 RX5 yX5_verdictUnder wsX5_verdictUnder) := goodIn_app (goodIn_of _ (by decide +kernel)) ggX5_rule_X5_verdictUnder
theorem dX5_rule_0 : decode cX5_rule 0 = .ok (.aload_n 0, 1) := by decide +kernel
theorem dX5_rule_1 : decode cX5_rule 1 = .ok (.getfield 31, 3) := by decide +kernel
theorem dX5_rule_4 : decode cX5_rule 4 = .ok (.iload_n 1, 1) := by decide +kernel
theorem dX5_rule_5 : decode cX5_rule 5 = .ok (.invokevirtual 172, 3) := by decide +kernel
theorem dX5_rule_8 : decode cX5_rule 8 = .ok (.ifCond .ne 5, 3) := by decide +kernel
theorem dX5_rule_11 : decode cX5_rule 11 = .ok (.iconst (-1), 1) := by decide +kernel
theorem dX5_rule_12 : decode cX5_rule 12 = .ok (.ireturn, 1) := by decide +kernel
theorem dX5_rule_13 : decode cX5_rule 13 = .ok (.iload_n 2, 1) := by decide +kernel
theorem dX5_rule_14 : decode cX5_rule 14 = .ok (.iconst (-1), 1) := by decide +kernel
theorem dX5_rule_15 : decode cX5_rule 15 = .ok (.if_icmp .eq 13, 3) := by decide +kernel
theorem dX5_rule_18 : decode cX5_rule 18 = .ok (.iload_n 2, 1) := by decide +kernel
theorem dX5_rule_19 : decode cX5_rule 19 = .ok (.invokestatic 95, 3) := by decide +kernel
theorem dX5_rule_22 : decode cX5_rule 22 = .ok (.ifCond .ne 6, 3) := by decide +kernel
theorem dX5_rule_25 : decode cX5_rule 25 = .ok (.bipush (-2), 2) := by decide +kernel
theorem dX5_rule_27 : decode cX5_rule 27 = .ok (.ireturn, 1) := by decide +kernel
theorem dX5_rule_28 : decode cX5_rule 28 = .ok (.aload_n 0, 1) := by decide +kernel
theorem dX5_rule_29 : decode cX5_rule 29 = .ok (.aload_n 0, 1) := by decide +kernel
theorem dX5_rule_30 : decode cX5_rule 30 = .ok (.getfield 21, 3) := by decide +kernel
theorem dX5_rule_33 : decode cX5_rule 33 = .ok (.iload_n 1, 1) := by decide +kernel
theorem dX5_rule_34 : decode cX5_rule 34 = .ok (.invokevirtual 197, 3) := by decide +kernel
theorem dX5_rule_37 : decode cX5_rule 37 = .ok (.istore_n 3, 1) := by decide +kernel
theorem dX5_rule_38 : decode cX5_rule 38 = .ok (.aload_n 0, 1) := by decide +kernel
theorem dX5_rule_39 : decode cX5_rule 39 = .ok (.getfield 31, 3) := by decide +kernel
theorem dX5_rule_42 : decode cX5_rule 42 = .ok (.getfield 201, 3) := by decide +kernel
theorem dX5_rule_45 : decode cX5_rule 45 = .ok (.iload_n 1, 1) := by decide +kernel
theorem dX5_rule_46 : decode cX5_rule 46 = .ok (.iload_n 2, 1) := by decide +kernel
theorem dX5_rule_47 : decode cX5_rule 47 = .ok (.iastore, 1) := by decide +kernel
theorem dX5_rule_48 : decode cX5_rule 48 = .ok (.iload_n 3, 1) := by decide +kernel
theorem dX5_rule_49 : decode cX5_rule 49 = .ok (.ireturn, 1) := by decide +kernel
set_option maxRecDepth 20000 in
theorem ggX5_make_X4_has : GoodIn wsX5_make wsX4_has := goodIn_r _ [9, 10, 103, 104, 105, 106] (by decide +kernel) (by decide +kernel)
set_option maxRecDepth 20000 in
theorem gX5_make_X4_has : GoodIn wsX5_make (wsV RX5 172 RX4 yX4_has wsX4_has) := goodIn_app (goodIn_of _ (by decide +kernel)) ggX5_make_X4_has
set_option maxRecDepth 20000 in
theorem ggX5_make_X4_knownSo : GoodIn wsX5_make wsX4_knownSo := goodIn_r _ [14, 15, 16, 17, 18, 8, 19, 103, 104, 105, 106] (by decide +kernel) (by decide +kernel)
set_option maxRecDepth 20000 in
theorem gX5_make_X4_knownSo : GoodIn wsX5_make (wsV RX5 179 RX4 yX4_knownSo wsX4_knownSo) := goodIn_app (goodIn_of _ (by decide +kernel)) ggX5_make_X4_knownSo
set_option maxRecDepth 20000 in
theorem ggX5_make_X4_knownNotSo : GoodIn wsX5_make wsX4_knownNotSo := goodIn_r _ [23, 16, 15, 17, 18, 8, 19, 103, 104, 105, 106] (by decide +kernel) (by decide +kernel)
set_option maxRecDepth 20000 in
theorem gX5_make_X4_knownNotSo : GoodIn wsX5_make (wsV RX5 182 RX4 yX4_knownNotSo wsX4_knownNotSo) := goodIn_app (goodIn_of _ (by decide +kernel)) ggX5_make_X4_knownNotSo
set_option maxRecDepth 20000 in
theorem ggX5_make_X0_allFacts : GoodIn wsX5_make wsX0_allFacts := goodIn_r _ [28, 29, 107, 108, 109, 110, 111, 112, 113, 114, 115, 116, 117] (by decide +kernel) (by decide +kernel)
set_option maxRecDepth 20000 in
theorem gX5_make_X0_allFacts : GoodIn wsX5_make (wsV RX5 185 RX0 yX0_allFacts wsX0_allFacts) := goodIn_app (goodIn_of _ (by decide +kernel)) ggX5_make_X0_allFacts
set_option maxRecDepth 20000 in
theorem ggX5_make_X0_hasKind : GoodIn wsX5_make wsX0_hasKind := goodIn_r _ [33, 29, 34, 107, 108, 109, 110, 111, 112, 113, 114, 115, 116, 117] (by decide +kernel) (by decide +kernel)
set_option maxRecDepth 20000 in
theorem gX5_make_X0_hasKind : GoodIn wsX5_make (wsV RX5 143 RX0 yX0_hasKind wsX0_hasKind) := goodIn_app (goodIn_of _ (by decide +kernel)) ggX5_make_X0_hasKind
set_option maxRecDepth 20000 in
theorem ggX5_make_X3_covers : GoodIn wsX5_make wsX3_covers := goodIn_r _ [39, 40, 101, 102] (by decide +kernel) (by decide +kernel)
set_option maxRecDepth 20000 in
theorem gX5_make_X3_covers : GoodIn wsX5_make (wsV RX5 162 RX3 yX3_covers wsX3_covers) := goodIn_app (goodIn_of _ (by decide +kernel)) ggX5_make_X3_covers
set_option maxRecDepth 20000 in
theorem ggX5_make_X0_namedBy : GoodIn wsX5_make wsX0_namedBy := goodIn_r _ [44, 45, 46, 47, 48, 49, 50, 51, 52, 107, 108, 109, 110, 111, 112, 113, 114, 115, 116, 117] (by decide +kernel) (by decide +kernel)
set_option maxRecDepth 20000 in
theorem gX5_make_X0_namedBy : GoodIn wsX5_make (wsV RX5 140 RX0 yX0_namedBy wsX0_namedBy) := goodIn_app (goodIn_of _ (by decide +kernel)) ggX5_make_X0_namedBy
set_option maxRecDepth 20000 in
theorem ggX5_make_X5_verdictUnder : GoodIn wsX5_make wsX5_verdictUnder := goodIn_r _ [56, 1, 2, 3, 11, 12, 13, 8, 14, 15, 16, 17, 18, 19, 20, 21, 22, 23, 57, 58, 59, 27, 60, 29, 61, 62, 63, 64, 34, 65, 66, 67, 68, 69, 70, 71, 72, 73, 74, 75, 38, 76, 77, 78, 79, 80, 81, 82, 40, 83, 36, 37, 39, 89, 90, 91, 92, 93, 94, 95, 96, 103, 104, 105, 106, 97, 98, 99, 100, 107, 108, 109, 110, 111, 112, 113, 114, 115, 116, 117, 101, 102] (by decide +kernel) (by decide +kernel)
set_option maxRecDepth 20000 in
theorem gX5_make_X5_verdictUnder : GoodIn wsX5_make (wsV RX5 197 RX5 yX5_verdictUnder wsX5_verdictUnder) := goodIn_app (goodIn_of _ (by decide +kernel)) ggX5_make_X5_verdictUnder
set_option maxRecDepth 20000 in
theorem ggX5_make_X1_add : GoodIn wsX5_make wsX1_add := goodIn_r _ [87, 70, 72, 88, 71, 97, 98, 99, 100] (by decide +kernel) (by decide +kernel)
set_option maxRecDepth 20000 in
theorem gX5_make_X1_add : GoodIn wsX5_make (wsV RX5 204 RX1 yX1_add wsX1_add) := goodIn_app (goodIn_of _ (by decide +kernel)) ggX5_make_X1_add
theorem dX5_make_0 : decode cX5_make 0 = .ok (.aload_n 0, 1) := by decide +kernel
theorem dX5_make_1 : decode cX5_make 1 = .ok (.getfield 31, 3) := by decide +kernel
theorem dX5_make_4 : decode cX5_make 4 = .ok (.iload_n 1, 1) := by decide +kernel
theorem dX5_make_5 : decode cX5_make 5 = .ok (.invokevirtual 172, 3) := by decide +kernel
theorem dX5_make_8 : decode cX5_make 8 = .ok (.ifCond .ne 5, 3) := by decide +kernel
theorem dX5_make_11 : decode cX5_make 11 = .ok (.iconst (-1), 1) := by decide +kernel
theorem dX5_make_12 : decode cX5_make 12 = .ok (.ireturn, 1) := by decide +kernel
theorem dX5_make_13 : decode cX5_make 13 = .ok (.aload_n 0, 1) := by decide +kernel
theorem dX5_make_14 : decode cX5_make 14 = .ok (.getfield 31, 3) := by decide +kernel
theorem dX5_make_17 : decode cX5_make 17 = .ok (.iload_n 1, 1) := by decide +kernel
theorem dX5_make_18 : decode cX5_make 18 = .ok (.invokevirtual 179, 3) := by decide +kernel
theorem dX5_make_21 : decode cX5_make 21 = .ok (.istore_n 2, 1) := by decide +kernel
theorem dX5_make_22 : decode cX5_make 22 = .ok (.aload_n 0, 1) := by decide +kernel
theorem dX5_make_23 : decode cX5_make 23 = .ok (.getfield 31, 3) := by decide +kernel
theorem dX5_make_26 : decode cX5_make 26 = .ok (.iload_n 1, 1) := by decide +kernel
theorem dX5_make_27 : decode cX5_make 27 = .ok (.invokevirtual 182, 3) := by decide +kernel
theorem dX5_make_30 : decode cX5_make 30 = .ok (.istore_n 3, 1) := by decide +kernel
theorem dX5_make_31 : decode cX5_make 31 = .ok (.iload_n 2, 1) := by decide +kernel
theorem dX5_make_32 : decode cX5_make 32 = .ok (.iload_n 3, 1) := by decide +kernel
theorem dX5_make_33 : decode cX5_make 33 = .ok (.ior, 1) := by decide +kernel
theorem dX5_make_34 : decode cX5_make 34 = .ok (.aload_n 0, 1) := by decide +kernel
theorem dX5_make_35 : decode cX5_make 35 = .ok (.getfield 10, 3) := by decide +kernel
theorem dX5_make_38 : decode cX5_make 38 = .ok (.invokevirtual 185, 3) := by decide +kernel
theorem dX5_make_41 : decode cX5_make 41 = .ok (.if_icmp .ne 14, 3) := by decide +kernel
theorem dX5_make_44 : decode cX5_make 44 = .ok (.aload_n 0, 1) := by decide +kernel
theorem dX5_make_45 : decode cX5_make 45 = .ok (.getfield 10, 3) := by decide +kernel
theorem dX5_make_48 : decode cX5_make 48 = .ok (.iload_n 2, 1) := by decide +kernel
theorem dX5_make_49 : decode cX5_make 49 = .ok (.invokevirtual 143, 3) := by decide +kernel
theorem dX5_make_52 : decode cX5_make 52 = .ok (.ifCond .ne 6, 3) := by decide +kernel
theorem dX5_make_55 : decode cX5_make 55 = .ok (.bipush (-3), 2) := by decide +kernel
theorem dX5_make_57 : decode cX5_make 57 = .ok (.ireturn, 1) := by decide +kernel
theorem dX5_make_58 : decode cX5_make 58 = .ok (.aload_n 0, 1) := by decide +kernel
theorem dX5_make_59 : decode cX5_make 59 = .ok (.getfield 38, 3) := by decide +kernel
theorem dX5_make_62 : decode cX5_make 62 = .ok (.getfield 66, 3) := by decide +kernel
theorem dX5_make_65 : decode cX5_make 65 = .ok (.bipush 12, 2) := by decide +kernel
theorem dX5_make_67 : decode cX5_make 67 = .ok (.if_icmp .lt 6, 3) := by decide +kernel
theorem dX5_make_70 : decode cX5_make 70 = .ok (.bipush (-4), 2) := by decide +kernel
theorem dX5_make_72 : decode cX5_make 72 = .ok (.ireturn, 1) := by decide +kernel
theorem dX5_make_73 : decode cX5_make 73 = .ok (.aload_n 0, 1) := by decide +kernel
theorem dX5_make_74 : decode cX5_make 74 = .ok (.getfield 21, 3) := by decide +kernel
theorem dX5_make_77 : decode cX5_make 77 = .ok (.iload_n 2, 1) := by decide +kernel
theorem dX5_make_78 : decode cX5_make 78 = .ok (.invokevirtual 162, 3) := by decide +kernel
theorem dX5_make_81 : decode cX5_make 81 = .ok (.ifCond .eq 22, 3) := by decide +kernel
theorem dX5_make_84 : decode cX5_make 84 = .ok (.aload_n 0, 1) := by decide +kernel
theorem dX5_make_85 : decode cX5_make 85 = .ok (.getfield 10, 3) := by decide +kernel
theorem dX5_make_88 : decode cX5_make 88 = .ok (.aload_n 0, 1) := by decide +kernel
theorem dX5_make_89 : decode cX5_make 89 = .ok (.getfield 21, 3) := by decide +kernel
theorem dX5_make_92 : decode cX5_make 92 = .ok (.getfield 153, 3) := by decide +kernel
theorem dX5_make_95 : decode cX5_make 95 = .ok (.iload_n 2, 1) := by decide +kernel
theorem dX5_make_96 : decode cX5_make 96 = .ok (.iaload, 1) := by decide +kernel
theorem dX5_make_97 : decode cX5_make 97 = .ok (.invokevirtual 140, 3) := by decide +kernel
theorem dX5_make_100 : decode cX5_make 100 = .ok (.goto 10, 3) := by decide +kernel
theorem dX5_make_103 : decode cX5_make 103 = .ok (.aload_n 0, 1) := by decide +kernel
theorem dX5_make_104 : decode cX5_make 104 = .ok (.getfield 10, 3) := by decide +kernel
theorem dX5_make_107 : decode cX5_make 107 = .ok (.invokevirtual 185, 3) := by decide +kernel
theorem dX5_make_110 : decode cX5_make 110 = .ok (.istore 4, 2) := by decide +kernel
theorem dX5_make_112 : decode cX5_make 112 = .ok (.aload_n 0, 1) := by decide +kernel
theorem dX5_make_113 : decode cX5_make 113 = .ok (.getfield 38, 3) := by decide +kernel
theorem dX5_make_116 : decode cX5_make 116 = .ok (.iload_n 2, 1) := by decide +kernel
theorem dX5_make_117 : decode cX5_make 117 = .ok (.aload_n 0, 1) := by decide +kernel
theorem dX5_make_118 : decode cX5_make 118 = .ok (.aload_n 0, 1) := by decide +kernel
theorem dX5_make_119 : decode cX5_make 119 = .ok (.getfield 21, 3) := by decide +kernel
theorem dX5_make_122 : decode cX5_make 122 = .ok (.iload_n 1, 1) := by decide +kernel
theorem dX5_make_123 : decode cX5_make 123 = .ok (.invokevirtual 197, 3) := by decide +kernel
theorem dX5_make_126 : decode cX5_make 126 = .ok (.iload 4, 2) := by decide +kernel
theorem dX5_make_128 : decode cX5_make 128 = .ok (.invokevirtual 204, 3) := by decide +kernel
theorem dX5_make_131 : decode cX5_make 131 = .ok (.ireturn, 1) := by decide +kernel
set_option maxRecDepth 20000 in
theorem ggX5_ofCase_X1_has : GoodIn wsX5_ofCase wsX1_has := goodIn_r _ [6, 7, 16, 17, 18, 19] (by decide +kernel) (by decide +kernel)
set_option maxRecDepth 20000 in
theorem gX5_ofCase_X1_has : GoodIn wsX5_ofCase (wsV RX5 206 RX1 yX1_has wsX1_has) := goodIn_app (goodIn_of _ (by decide +kernel)) ggX5_ofCase_X1_has
theorem dX5_ofCase_0 : decode cX5_ofCase 0 = .ok (.aload_n 0, 1) := by decide +kernel
theorem dX5_ofCase_1 : decode cX5_ofCase 1 = .ok (.getfield 38, 3) := by decide +kernel
theorem dX5_ofCase_4 : decode cX5_ofCase 4 = .ok (.iload_n 1, 1) := by decide +kernel
theorem dX5_ofCase_5 : decode cX5_ofCase 5 = .ok (.invokevirtual 206, 3) := by decide +kernel
theorem dX5_ofCase_8 : decode cX5_ofCase 8 = .ok (.ifCond .ne 5, 3) := by decide +kernel
theorem dX5_ofCase_11 : decode cX5_ofCase 11 = .ok (.iconst (-1), 1) := by decide +kernel
theorem dX5_ofCase_12 : decode cX5_ofCase 12 = .ok (.ireturn, 1) := by decide +kernel
theorem dX5_ofCase_13 : decode cX5_ofCase 13 = .ok (.iload_n 2, 1) := by decide +kernel
theorem dX5_ofCase_14 : decode cX5_ofCase 14 = .ok (.tableswitch 56 0 2 #[26, 36, 46], 26) := by decide +kernel
theorem dX5_ofCase_40 : decode cX5_ofCase 40 = .ok (.aload_n 0, 1) := by decide +kernel
theorem dX5_ofCase_41 : decode cX5_ofCase 41 = .ok (.getfield 38, 3) := by decide +kernel
theorem dX5_ofCase_44 : decode cX5_ofCase 44 = .ok (.getfield 207, 3) := by decide +kernel
theorem dX5_ofCase_47 : decode cX5_ofCase 47 = .ok (.iload_n 1, 1) := by decide +kernel
theorem dX5_ofCase_48 : decode cX5_ofCase 48 = .ok (.iaload, 1) := by decide +kernel
theorem dX5_ofCase_49 : decode cX5_ofCase 49 = .ok (.ireturn, 1) := by decide +kernel
theorem dX5_ofCase_50 : decode cX5_ofCase 50 = .ok (.aload_n 0, 1) := by decide +kernel
theorem dX5_ofCase_51 : decode cX5_ofCase 51 = .ok (.getfield 38, 3) := by decide +kernel
theorem dX5_ofCase_54 : decode cX5_ofCase 54 = .ok (.getfield 210, 3) := by decide +kernel
theorem dX5_ofCase_57 : decode cX5_ofCase 57 = .ok (.iload_n 1, 1) := by decide +kernel
theorem dX5_ofCase_58 : decode cX5_ofCase 58 = .ok (.iaload, 1) := by decide +kernel
theorem dX5_ofCase_59 : decode cX5_ofCase 59 = .ok (.ireturn, 1) := by decide +kernel
theorem dX5_ofCase_60 : decode cX5_ofCase 60 = .ok (.aload_n 0, 1) := by decide +kernel
theorem dX5_ofCase_61 : decode cX5_ofCase 61 = .ok (.getfield 38, 3) := by decide +kernel
theorem dX5_ofCase_64 : decode cX5_ofCase 64 = .ok (.getfield 211, 3) := by decide +kernel
theorem dX5_ofCase_67 : decode cX5_ofCase 67 = .ok (.iload_n 1, 1) := by decide +kernel
theorem dX5_ofCase_68 : decode cX5_ofCase 68 = .ok (.iaload, 1) := by decide +kernel
theorem dX5_ofCase_69 : decode cX5_ofCase 69 = .ok (.ireturn, 1) := by decide +kernel
theorem dX5_ofCase_70 : decode cX5_ofCase 70 = .ok (.bipush (-2), 2) := by decide +kernel
theorem dX5_ofCase_72 : decode cX5_ofCase 72 = .ok (.ireturn, 1) := by decide +kernel
set_option maxRecDepth 20000 in
theorem ggX5_turned_X3_rulingFor : GoodIn wsX5_turned wsX3_rulingFor := goodIn_r _ [7, 8, 9, 10, 11, 12, 6, 13, 26, 27, 28, 29, 30, 31, 32, 33, 34, 35, 36, 37, 38] (by decide +kernel) (by decide +kernel)
set_option maxRecDepth 20000 in
theorem gX5_turned_X3_rulingFor : GoodIn wsX5_turned (wsV RX5 156 RX3 yX3_rulingFor wsX3_rulingFor) := goodIn_app (goodIn_of _ (by decide +kernel)) ggX5_turned_X3_rulingFor
theorem dX5_turned_0 : decode cX5_turned 0 = .ok (.iconst 0, 1) := by decide +kernel
theorem dX5_turned_1 : decode cX5_turned 1 = .ok (.istore_n 1, 1) := by decide +kernel
theorem dX5_turned_2 : decode cX5_turned 2 = .ok (.iconst 0, 1) := by decide +kernel
theorem dX5_turned_3 : decode cX5_turned 3 = .ok (.istore_n 2, 1) := by decide +kernel
theorem dX5_turned_4 : decode cX5_turned 4 = .ok (.iload_n 2, 1) := by decide +kernel
theorem dX5_turned_5 : decode cX5_turned 5 = .ok (.aload_n 0, 1) := by decide +kernel
theorem dX5_turned_6 : decode cX5_turned 6 = .ok (.getfield 38, 3) := by decide +kernel
theorem dX5_turned_9 : decode cX5_turned 9 = .ok (.getfield 66, 3) := by decide +kernel
theorem dX5_turned_12 : decode cX5_turned 12 = .ok (.if_icmp .ge 43, 3) := by decide +kernel
theorem dX5_turned_15 : decode cX5_turned 15 = .ok (.aload_n 0, 1) := by decide +kernel
theorem dX5_turned_16 : decode cX5_turned 16 = .ok (.getfield 38, 3) := by decide +kernel
theorem dX5_turned_19 : decode cX5_turned 19 = .ok (.getfield 210, 3) := by decide +kernel
theorem dX5_turned_22 : decode cX5_turned 22 = .ok (.iload_n 2, 1) := by decide +kernel
theorem dX5_turned_23 : decode cX5_turned 23 = .ok (.iaload, 1) := by decide +kernel
theorem dX5_turned_24 : decode cX5_turned 24 = .ok (.aload_n 0, 1) := by decide +kernel
theorem dX5_turned_25 : decode cX5_turned 25 = .ok (.getfield 21, 3) := by decide +kernel
theorem dX5_turned_28 : decode cX5_turned 28 = .ok (.aload_n 0, 1) := by decide +kernel
theorem dX5_turned_29 : decode cX5_turned 29 = .ok (.getfield 38, 3) := by decide +kernel
theorem dX5_turned_32 : decode cX5_turned 32 = .ok (.getfield 207, 3) := by decide +kernel
theorem dX5_turned_35 : decode cX5_turned 35 = .ok (.iload_n 2, 1) := by decide +kernel
theorem dX5_turned_36 : decode cX5_turned 36 = .ok (.iaload, 1) := by decide +kernel
theorem dX5_turned_37 : decode cX5_turned 37 = .ok (.invokevirtual 156, 3) := by decide +kernel
theorem dX5_turned_40 : decode cX5_turned 40 = .ok (.if_icmp .eq 9, 3) := by decide +kernel
theorem dX5_turned_43 : decode cX5_turned 43 = .ok (.iload_n 1, 1) := by decide +kernel
theorem dX5_turned_44 : decode cX5_turned 44 = .ok (.iconst 1, 1) := by decide +kernel
theorem dX5_turned_45 : decode cX5_turned 45 = .ok (.iload_n 2, 1) := by decide +kernel
theorem dX5_turned_46 : decode cX5_turned 46 = .ok (.ishl, 1) := by decide +kernel
theorem dX5_turned_47 : decode cX5_turned 47 = .ok (.ior, 1) := by decide +kernel
theorem dX5_turned_48 : decode cX5_turned 48 = .ok (.istore_n 1, 1) := by decide +kernel
theorem dX5_turned_49 : decode cX5_turned 49 = .ok (.iinc 2 1, 3) := by decide +kernel
theorem dX5_turned_52 : decode cX5_turned 52 = .ok (.goto (-48), 3) := by decide +kernel
theorem dX5_turned_55 : decode cX5_turned 55 = .ok (.iload_n 1, 1) := by decide +kernel
theorem dX5_turned_56 : decode cX5_turned 56 = .ok (.ireturn, 1) := by decide +kernel
set_option maxRecDepth 20000 in
theorem ggX5_mend_X0_hasLine : GoodIn wsX5_mend wsX0_hasLine := goodIn_r _ [7, 8, 116, 117, 118, 119, 120, 121, 122, 123, 124, 125, 126] (by decide +kernel) (by decide +kernel)
set_option maxRecDepth 20000 in
theorem gX5_mend_X0_hasLine : GoodIn wsX5_mend (wsV RX5 105 RX0 yX0_hasLine wsX0_hasLine) := goodIn_app (goodIn_of _ (by decide +kernel)) ggX5_mend_X0_hasLine
set_option maxRecDepth 20000 in
theorem ggX5_mend_X0_repealedIfMended : GoodIn wsX5_mend wsX0_repealedIfMended := goodIn_r _ [12, 13, 116, 117, 118, 119, 120, 121, 122, 123, 124, 125, 126] (by decide +kernel) (by decide +kernel)
set_option maxRecDepth 20000 in
theorem gX5_mend_X0_repealedIfMended : GoodIn wsX5_mend (wsV RX5 128 RX0 yX0_repealedIfMended wsX0_repealedIfMended) := goodIn_app (goodIn_of _ (by decide +kernel)) ggX5_mend_X0_repealedIfMended
set_option maxRecDepth 20000 in
theorem ggX5_mend_X3_work : GoodIn wsX5_mend wsX3_work := goodIn_r _ [18, 19, 20, 21, 22, 23, 6, 24, 25, 8, 26, 27, 28, 29, 30, 31, 32, 33, 34, 35, 127, 128, 116, 117, 118, 119, 120, 121, 122, 123, 124, 125, 126] (by decide +kernel) (by decide +kernel)
set_option maxRecDepth 20000 in
theorem gX5_mend_X3_work : GoodIn wsX5_mend (wsV RX5 70 RX3 yX3_work wsX3_work) := goodIn_app (goodIn_of _ (by decide +kernel)) ggX5_mend_X3_work
set_option maxRecDepth 20000 in
theorem ggX5_mend_X5_turnedKinds : GoodIn wsX5_mend wsX5_turnedKinds := goodIn_r _ [39, 1, 40, 2, 41, 42, 43, 6, 44, 45, 46, 47, 48, 49, 17, 50, 51, 52, 53, 54, 19, 20, 55, 56, 57, 58, 108, 109, 110, 111, 112, 113, 114, 115, 116, 117, 118, 119, 120, 121, 122, 123, 124, 125, 126, 127, 128] (by decide +kernel) (by decide +kernel)
set_option maxRecDepth 20000 in
theorem gX5_mend_X5_turnedKinds : GoodIn wsX5_mend (wsV RX5 165 RX5 yX5_turnedKinds wsX5_turnedKinds) := goodIn_app (goodIn_of _ (by decide +kernel)) ggX5_mend_X5_turnedKinds
set_option maxRecDepth 20000 in
theorem ggX5_mend_X5_casesOfTurnedKinds : GoodIn wsX5_mend wsX5_casesOfTurnedKinds := goodIn_r _ [62, 63, 40, 2, 47, 48, 49, 17, 50, 51, 52, 53, 54, 19, 20, 55, 56, 57, 58, 108, 109, 110, 111, 112, 113, 114, 115, 129, 130, 131, 132, 127, 128, 116, 117, 118, 119, 120, 121, 122, 123, 124, 125, 126] (by decide +kernel) (by decide +kernel)
set_option maxRecDepth 20000 in
theorem gX5_mend_X5_casesOfTurnedKinds : GoodIn wsX5_mend (wsV RX5 214 RX5 yX5_casesOfTurnedKinds wsX5_casesOfTurnedKinds) := goodIn_app (goodIn_of _ (by decide +kernel)) ggX5_mend_X5_casesOfTurnedKinds
set_option maxRecDepth 20000 in
theorem ggX5_mend_X5_turnedVerdicts : GoodIn wsX5_mend wsX5_turnedVerdicts := goodIn_r _ [67, 68, 40, 2, 69, 70, 71, 34, 72, 1, 63, 73, 74, 75, 76, 77, 78, 79, 80, 81, 82, 83, 84, 85, 86, 87, 88, 89, 6, 90, 45, 91, 92, 93, 94, 46, 95, 96, 97, 98, 99, 100, 101, 102, 103, 104, 105, 17, 106, 19, 107, 51, 52, 53, 54, 20, 55, 56, 57, 58, 108, 109, 110, 111, 112, 113, 114, 115, 133, 134, 135, 136, 129, 130, 131, 132, 116, 117, 118, 119, 120, 121, 122, 123, 124, 125, 126, 127, 128] (by decide +kernel) (by decide +kernel)
set_option maxRecDepth 20000 in
theorem gX5_mend_X5_turnedVerdicts : GoodIn wsX5_mend (wsV RX5 217 RX5 yX5_turnedVerdicts wsX5_turnedVerdicts) := goodIn_app (goodIn_of _ (by decide +kernel)) ggX5_mend_X5_turnedVerdicts
theorem dX5_mend_0 : decode cX5_mend 0 = .ok (.aload_n 0, 1) := by decide +kernel
theorem dX5_mend_1 : decode cX5_mend 1 = .ok (.getfield 10, 3) := by decide +kernel
theorem dX5_mend_4 : decode cX5_mend 4 = .ok (.iload_n 1, 1) := by decide +kernel
theorem dX5_mend_5 : decode cX5_mend 5 = .ok (.invokevirtual 105, 3) := by decide +kernel
theorem dX5_mend_8 : decode cX5_mend 8 = .ok (.ifCond .ne 5, 3) := by decide +kernel
theorem dX5_mend_11 : decode cX5_mend 11 = .ok (.iconst (-1), 1) := by decide +kernel
theorem dX5_mend_12 : decode cX5_mend 12 = .ok (.ireturn, 1) := by decide +kernel
theorem dX5_mend_13 : decode cX5_mend 13 = .ok (.iload_n 2, 1) := by decide +kernel
theorem dX5_mend_14 : decode cX5_mend 14 = .ok (.ifCond .lt 8, 3) := by decide +kernel
theorem dX5_mend_17 : decode cX5_mend 17 = .ok (.iload_n 2, 1) := by decide +kernel
theorem dX5_mend_18 : decode cX5_mend 18 = .ok (.iconst 2, 1) := by decide +kernel
theorem dX5_mend_19 : decode cX5_mend 19 = .ok (.if_icmp .le 6, 3) := by decide +kernel
theorem dX5_mend_22 : decode cX5_mend 22 = .ok (.bipush (-2), 2) := by decide +kernel
theorem dX5_mend_24 : decode cX5_mend 24 = .ok (.ireturn, 1) := by decide +kernel
theorem dX5_mend_25 : decode cX5_mend 25 = .ok (.aload_n 0, 1) := by decide +kernel
theorem dX5_mend_26 : decode cX5_mend 26 = .ok (.getfield 25, 3) := by decide +kernel
theorem dX5_mend_29 : decode cX5_mend 29 = .ok (.aload_n 0, 1) := by decide +kernel
theorem dX5_mend_30 : decode cX5_mend 30 = .ok (.getfield 10, 3) := by decide +kernel
theorem dX5_mend_33 : decode cX5_mend 33 = .ok (.iload_n 1, 1) := by decide +kernel
theorem dX5_mend_34 : decode cX5_mend 34 = .ok (.invokevirtual 128, 3) := by decide +kernel
theorem dX5_mend_37 : decode cX5_mend 37 = .ok (.invokevirtual 70, 3) := by decide +kernel
theorem dX5_mend_40 : decode cX5_mend 40 = .ok (.iload_n 2, 1) := by decide +kernel
theorem dX5_mend_41 : decode cX5_mend 41 = .ok (.ifCond .ne 8, 3) := by decide +kernel
theorem dX5_mend_44 : decode cX5_mend 44 = .ok (.aload_n 0, 1) := by decide +kernel
theorem dX5_mend_45 : decode cX5_mend 45 = .ok (.invokevirtual 165, 3) := by decide +kernel
theorem dX5_mend_48 : decode cX5_mend 48 = .ok (.ireturn, 1) := by decide +kernel
theorem dX5_mend_49 : decode cX5_mend 49 = .ok (.iload_n 2, 1) := by decide +kernel
theorem dX5_mend_50 : decode cX5_mend 50 = .ok (.iconst 1, 1) := by decide +kernel
theorem dX5_mend_51 : decode cX5_mend 51 = .ok (.if_icmp .ne 10, 3) := by decide +kernel
theorem dX5_mend_54 : decode cX5_mend 54 = .ok (.aload_n 0, 1) := by decide +kernel
theorem dX5_mend_55 : decode cX5_mend 55 = .ok (.invokevirtual 214, 3) := by decide +kernel
theorem dX5_mend_58 : decode cX5_mend 58 = .ok (.goto 7, 3) := by decide +kernel
theorem dX5_mend_61 : decode cX5_mend 61 = .ok (.aload_n 0, 1) := by decide +kernel
theorem dX5_mend_62 : decode cX5_mend 62 = .ok (.invokevirtual 217, 3) := by decide +kernel
theorem dX5_mend_65 : decode cX5_mend 65 = .ok (.ireturn, 1) := by decide +kernel
theorem dX5_goal_0 : decode cX5_goal 0 = .ok (.iload_n 1, 1) := by decide +kernel
theorem dX5_goal_1 : decode cX5_goal 1 = .ok (.iconst 1, 1) := by decide +kernel
theorem dX5_goal_2 : decode cX5_goal 2 = .ok (.if_icmp .lt 9, 3) := by decide +kernel
theorem dX5_goal_5 : decode cX5_goal 5 = .ok (.iload_n 1, 1) := by decide +kernel
theorem dX5_goal_6 : decode cX5_goal 6 = .ok (.bipush 20, 2) := by decide +kernel
theorem dX5_goal_8 : decode cX5_goal 8 = .ok (.if_icmp .le 6, 3) := by decide +kernel
theorem dX5_goal_11 : decode cX5_goal 11 = .ok (.bipush (-2), 2) := by decide +kernel
theorem dX5_goal_13 : decode cX5_goal 13 = .ok (.ireturn, 1) := by decide +kernel
theorem dX5_goal_14 : decode cX5_goal 14 = .ok (.aload_n 0, 1) := by decide +kernel
theorem dX5_goal_15 : decode cX5_goal 15 = .ok (.getfield 52, 3) := by decide +kernel
theorem dX5_goal_18 : decode cX5_goal 18 = .ok (.istore_n 2, 1) := by decide +kernel
theorem dX5_goal_19 : decode cX5_goal 19 = .ok (.aload_n 0, 1) := by decide +kernel
theorem dX5_goal_20 : decode cX5_goal 20 = .ok (.iload_n 1, 1) := by decide +kernel
theorem dX5_goal_21 : decode cX5_goal 21 = .ok (.putfield 52, 3) := by decide +kernel
theorem dX5_goal_24 : decode cX5_goal 24 = .ok (.iload_n 2, 1) := by decide +kernel
theorem dX5_goal_25 : decode cX5_goal 25 = .ok (.ireturn, 1) := by decide +kernel
set_option maxRecDepth 20000 in
theorem ggX5_score_X2_begin : GoodIn wsX5_score wsX2_begin := goodIn_r _ [9, 10, 11, 12, 13, 95, 96, 97, 98] (by decide +kernel) (by decide +kernel)
set_option maxRecDepth 20000 in
theorem gX5_score_X2_begin : GoodIn wsX5_score (wsV RX5 220 RX2 yX2_begin wsX2_begin) := goodIn_app (goodIn_of _ (by decide +kernel)) ggX5_score_X2_begin
set_option maxRecDepth 20000 in
theorem ggX5_score_X5_verdictUnder : GoodIn wsX5_score wsX5_verdictUnder := goodIn_r _ [18, 1, 19, 20, 21, 22, 23, 24, 25, 26, 27, 28, 29, 30, 31, 32, 33, 34, 35, 36, 37, 38, 39, 40, 41, 42, 43, 44, 45, 46, 47, 48, 49, 50, 51, 52, 53, 54, 55, 56, 57, 58, 59, 60, 61, 62, 63, 64, 65, 66, 67, 68, 69, 83, 84, 85, 86, 87, 88, 89, 90, 91, 92, 93, 94, 99, 100, 101, 102, 103, 104, 105, 106, 107, 108, 109, 110, 111, 112, 113, 114, 115] (by decide +kernel) (by decide +kernel)
set_option maxRecDepth 20000 in
theorem gX5_score_X5_verdictUnder : GoodIn wsX5_score (wsV RX5 197 RX5 yX5_verdictUnder wsX5_verdictUnder) := goodIn_app (goodIn_of _ (by decide +kernel)) ggX5_score_X5_verdictUnder
set_option maxRecDepth 20000 in
theorem ggX5_score_X2_play : GoodIn wsX5_score wsX2_play := goodIn_r _ [73, 13, 74, 75, 76, 8, 77, 11, 10, 12, 78, 79, 80, 81, 95, 96, 97, 98] (by decide +kernel) (by decide +kernel)
set_option maxRecDepth 20000 in
theorem gX5_score_X2_play : GoodIn wsX5_score (wsV RX5 221 RX2 yX2_play wsX2_play) := goodIn_app (goodIn_of _ (by decide +kernel)) ggX5_score_X2_play
set_option maxRecDepth 20000 in
theorem ggX5_score_X2_winner : GoodIn wsX5_score wsX2_winner := goodIn_r _ [77, 11, 10, 12, 95, 96, 97, 98] (by decide +kernel) (by decide +kernel)
set_option maxRecDepth 20000 in
theorem gX5_score_X2_winner : GoodIn wsX5_score (wsV RX5 233 RX2 yX2_winner wsX2_winner) := goodIn_app (goodIn_of _ (by decide +kernel)) ggX5_score_X2_winner
theorem dX5_score_0 : decode cX5_score 0 = .ok (.iload_n 1, 1) := by decide +kernel
theorem dX5_score_1 : decode cX5_score 1 = .ok (.ifCond .lt 23, 3) := by decide +kernel
theorem dX5_score_4 : decode cX5_score 4 = .ok (.iload_n 1, 1) := by decide +kernel
theorem dX5_score_5 : decode cX5_score 5 = .ok (.aload_n 0, 1) := by decide +kernel
theorem dX5_score_6 : decode cX5_score 6 = .ok (.getfield 31, 3) := by decide +kernel
theorem dX5_score_9 : decode cX5_score 9 = .ok (.getfield 63, 3) := by decide +kernel
theorem dX5_score_12 : decode cX5_score 12 = .ok (.if_icmp .gt 12, 3) := by decide +kernel
theorem dX5_score_15 : decode cX5_score 15 = .ok (.iload_n 2, 1) := by decide +kernel
theorem dX5_score_16 : decode cX5_score 16 = .ok (.ifCond .lt 8, 3) := by decide +kernel
theorem dX5_score_19 : decode cX5_score 19 = .ok (.iload_n 2, 1) := by decide +kernel
theorem dX5_score_20 : decode cX5_score 20 = .ok (.iconst 3, 1) := by decide +kernel
theorem dX5_score_21 : decode cX5_score 21 = .ok (.if_icmp .le 6, 3) := by decide +kernel
theorem dX5_score_24 : decode cX5_score 24 = .ok (.bipush (-2), 2) := by decide +kernel
theorem dX5_score_26 : decode cX5_score 26 = .ok (.ireturn, 1) := by decide +kernel
theorem dX5_score_27 : decode cX5_score 27 = .ok (.aload_n 0, 1) := by decide +kernel
theorem dX5_score_28 : decode cX5_score 28 = .ok (.getfield 45, 3) := by decide +kernel
theorem dX5_score_31 : decode cX5_score 31 = .ok (.aload_n 0, 1) := by decide +kernel
theorem dX5_score_32 : decode cX5_score 32 = .ok (.getfield 52, 3) := by decide +kernel
theorem dX5_score_35 : decode cX5_score 35 = .ok (.invokevirtual 220, 3) := by decide +kernel
theorem dX5_score_38 : decode cX5_score 38 = .ok (.iconst 0, 1) := by decide +kernel
theorem dX5_score_39 : decode cX5_score 39 = .ok (.istore_n 3, 1) := by decide +kernel
theorem dX5_score_40 : decode cX5_score 40 = .ok (.iload_n 3, 1) := by decide +kernel
theorem dX5_score_41 : decode cX5_score 41 = .ok (.iload_n 1, 1) := by decide +kernel
theorem dX5_score_42 : decode cX5_score 42 = .ok (.if_icmp .ge 25, 3) := by decide +kernel
theorem dX5_score_45 : decode cX5_score 45 = .ok (.aload_n 0, 1) := by decide +kernel
theorem dX5_score_46 : decode cX5_score 46 = .ok (.getfield 45, 3) := by decide +kernel
theorem dX5_score_49 : decode cX5_score 49 = .ok (.aload_n 0, 1) := by decide +kernel
theorem dX5_score_50 : decode cX5_score 50 = .ok (.aload_n 0, 1) := by decide +kernel
theorem dX5_score_51 : decode cX5_score 51 = .ok (.getfield 21, 3) := by decide +kernel
theorem dX5_score_54 : decode cX5_score 54 = .ok (.iload_n 3, 1) := by decide +kernel
theorem dX5_score_55 : decode cX5_score 55 = .ok (.invokevirtual 197, 3) := by decide +kernel
theorem dX5_score_58 : decode cX5_score 58 = .ok (.invokevirtual 221, 3) := by decide +kernel
theorem dX5_score_61 : decode cX5_score 61 = .ok (.iinc 3 1, 3) := by decide +kernel
theorem dX5_score_64 : decode cX5_score 64 = .ok (.goto (-24), 3) := by decide +kernel
theorem dX5_score_67 : decode cX5_score 67 = .ok (.iload_n 2, 1) := by decide +kernel
theorem dX5_score_68 : decode cX5_score 68 = .ok (.tableswitch 52 0 2 #[28, 36, 44], 28) := by decide +kernel
theorem dX5_score_96 : decode cX5_score 96 = .ok (.aload_n 0, 1) := by decide +kernel
theorem dX5_score_97 : decode cX5_score 97 = .ok (.getfield 45, 3) := by decide +kernel
theorem dX5_score_100 : decode cX5_score 100 = .ok (.getfield 224, 3) := by decide +kernel
theorem dX5_score_103 : decode cX5_score 103 = .ok (.ireturn, 1) := by decide +kernel
theorem dX5_score_104 : decode cX5_score 104 = .ok (.aload_n 0, 1) := by decide +kernel
theorem dX5_score_105 : decode cX5_score 105 = .ok (.getfield 45, 3) := by decide +kernel
theorem dX5_score_108 : decode cX5_score 108 = .ok (.getfield 227, 3) := by decide +kernel
theorem dX5_score_111 : decode cX5_score 111 = .ok (.ireturn, 1) := by decide +kernel
theorem dX5_score_112 : decode cX5_score 112 = .ok (.aload_n 0, 1) := by decide +kernel
theorem dX5_score_113 : decode cX5_score 113 = .ok (.getfield 45, 3) := by decide +kernel
theorem dX5_score_116 : decode cX5_score 116 = .ok (.getfield 230, 3) := by decide +kernel
theorem dX5_score_119 : decode cX5_score 119 = .ok (.ireturn, 1) := by decide +kernel
theorem dX5_score_120 : decode cX5_score 120 = .ok (.aload_n 0, 1) := by decide +kernel
theorem dX5_score_121 : decode cX5_score 121 = .ok (.getfield 45, 3) := by decide +kernel
theorem dX5_score_124 : decode cX5_score 124 = .ok (.invokevirtual 233, 3) := by decide +kernel
theorem dX5_score_127 : decode cX5_score 127 = .ok (.ireturn, 1) := by decide +kernel
set_option maxRecDepth 20000 in
theorem ggX5_appeal_X4_has : GoodIn wsX5_appeal wsX4_has := goodIn_r _ [10, 11, 103, 104, 105, 106] (by decide +kernel) (by decide +kernel)
set_option maxRecDepth 20000 in
theorem gX5_appeal_X4_has : GoodIn wsX5_appeal (wsV RX5 172 RX4 yX4_has wsX4_has) := goodIn_app (goodIn_of _ (by decide +kernel)) ggX5_appeal_X4_has
set_option maxRecDepth 20000 in
theorem ggX5_appeal_X5_isRuling : GoodIn wsX5_appeal wsX5_isRuling := goodIn_r _ [15] (by decide +kernel) (by decide +kernel)
set_option maxRecDepth 20000 in
theorem gX5_appeal_X5_isRuling : GoodIn wsX5_appeal (va_wsS RX5 95 yX5_isRuling wsX5_isRuling) := goodIn_app (goodIn_of _ (by decide +kernel)) ggX5_appeal_X5_isRuling
set_option maxRecDepth 20000 in
theorem ggX5_appeal_X2_begin : GoodIn wsX5_appeal wsX2_begin := goodIn_r _ [20, 21, 22, 23, 24, 107, 108, 109, 110] (by decide +kernel) (by decide +kernel)
set_option maxRecDepth 20000 in
theorem gX5_appeal_X2_begin : GoodIn wsX5_appeal (wsV RX5 220 RX2 yX2_begin wsX2_begin) := goodIn_app (goodIn_of _ (by decide +kernel)) ggX5_appeal_X2_begin
set_option maxRecDepth 20000 in
theorem ggX5_appeal_X5_verdictUnder : GoodIn wsX5_appeal wsX5_verdictUnder := goodIn_r _ [28, 1, 29, 30, 31, 32, 33, 9, 34, 35, 36, 37, 38, 39, 40, 41, 42, 43, 44, 45, 46, 47, 48, 49, 50, 51, 52, 53, 54, 55, 56, 57, 58, 59, 60, 61, 62, 63, 64, 65, 66, 67, 68, 69, 70, 71, 72, 73, 74, 75, 76, 77, 78, 95, 96, 97, 98, 99, 100, 101, 102, 103, 104, 105, 106, 111, 112, 113, 114, 115, 116, 117, 118, 119, 120, 121, 122, 123, 124, 125, 126, 127] (by decide +kernel) (by decide +kernel)
set_option maxRecDepth 20000 in
theorem gX5_appeal_X5_verdictUnder : GoodIn wsX5_appeal (wsV RX5 197 RX5 yX5_verdictUnder wsX5_verdictUnder) := goodIn_app (goodIn_of _ (by decide +kernel)) ggX5_appeal_X5_verdictUnder
set_option maxRecDepth 20000 in
theorem ggX5_appeal_X2_play : GoodIn wsX5_appeal wsX2_play := goodIn_r _ [82, 24, 83, 84, 85, 19, 86, 22, 21, 23, 87, 88, 89, 90, 107, 108, 109, 110] (by decide +kernel) (by decide +kernel)
set_option maxRecDepth 20000 in
theorem gX5_appeal_X2_play : GoodIn wsX5_appeal (wsV RX5 221 RX2 yX2_play wsX2_play) := goodIn_app (goodIn_of _ (by decide +kernel)) ggX5_appeal_X2_play
set_option maxRecDepth 20000 in
theorem ggX5_appeal_X2_standsAs : GoodIn wsX5_appeal wsX2_standsAs := goodIn_r _ [94, 22, 23, 24, 83, 84, 85, 19, 86, 21, 107, 108, 109, 110] (by decide +kernel) (by decide +kernel)
set_option maxRecDepth 20000 in
theorem gX5_appeal_X2_standsAs : GoodIn wsX5_appeal (wsV RX5 236 RX2 yX2_standsAs wsX2_standsAs) := goodIn_app (goodIn_of _ (by decide +kernel)) ggX5_appeal_X2_standsAs
theorem dX5_appeal_0 : decode cX5_appeal 0 = .ok (.aload_n 0, 1) := by decide +kernel
theorem dX5_appeal_1 : decode cX5_appeal 1 = .ok (.getfield 31, 3) := by decide +kernel
theorem dX5_appeal_4 : decode cX5_appeal 4 = .ok (.iload_n 1, 1) := by decide +kernel
theorem dX5_appeal_5 : decode cX5_appeal 5 = .ok (.invokevirtual 172, 3) := by decide +kernel
theorem dX5_appeal_8 : decode cX5_appeal 8 = .ok (.ifCond .ne 5, 3) := by decide +kernel
theorem dX5_appeal_11 : decode cX5_appeal 11 = .ok (.iconst (-1), 1) := by decide +kernel
theorem dX5_appeal_12 : decode cX5_appeal 12 = .ok (.ireturn, 1) := by decide +kernel
theorem dX5_appeal_13 : decode cX5_appeal 13 = .ok (.iload_n 2, 1) := by decide +kernel
theorem dX5_appeal_14 : decode cX5_appeal 14 = .ok (.invokestatic 95, 3) := by decide +kernel
theorem dX5_appeal_17 : decode cX5_appeal 17 = .ok (.ifCond .ne 6, 3) := by decide +kernel
theorem dX5_appeal_20 : decode cX5_appeal 20 = .ok (.bipush (-2), 2) := by decide +kernel
theorem dX5_appeal_22 : decode cX5_appeal 22 = .ok (.ireturn, 1) := by decide +kernel
theorem dX5_appeal_23 : decode cX5_appeal 23 = .ok (.aload_n 0, 1) := by decide +kernel
theorem dX5_appeal_24 : decode cX5_appeal 24 = .ok (.getfield 45, 3) := by decide +kernel
theorem dX5_appeal_27 : decode cX5_appeal 27 = .ok (.aload_n 0, 1) := by decide +kernel
theorem dX5_appeal_28 : decode cX5_appeal 28 = .ok (.getfield 52, 3) := by decide +kernel
theorem dX5_appeal_31 : decode cX5_appeal 31 = .ok (.invokevirtual 220, 3) := by decide +kernel
theorem dX5_appeal_34 : decode cX5_appeal 34 = .ok (.aload_n 0, 1) := by decide +kernel
theorem dX5_appeal_35 : decode cX5_appeal 35 = .ok (.getfield 49, 3) := by decide +kernel
theorem dX5_appeal_38 : decode cX5_appeal 38 = .ok (.aload_n 0, 1) := by decide +kernel
theorem dX5_appeal_39 : decode cX5_appeal 39 = .ok (.getfield 52, 3) := by decide +kernel
theorem dX5_appeal_42 : decode cX5_appeal 42 = .ok (.invokevirtual 220, 3) := by decide +kernel
theorem dX5_appeal_45 : decode cX5_appeal 45 = .ok (.iconst 0, 1) := by decide +kernel
theorem dX5_appeal_46 : decode cX5_appeal 46 = .ok (.istore_n 3, 1) := by decide +kernel
theorem dX5_appeal_47 : decode cX5_appeal 47 = .ok (.iload_n 3, 1) := by decide +kernel
theorem dX5_appeal_48 : decode cX5_appeal 48 = .ok (.aload_n 0, 1) := by decide +kernel
theorem dX5_appeal_49 : decode cX5_appeal 49 = .ok (.getfield 31, 3) := by decide +kernel
theorem dX5_appeal_52 : decode cX5_appeal 52 = .ok (.getfield 63, 3) := by decide +kernel
theorem dX5_appeal_55 : decode cX5_appeal 55 = .ok (.if_icmp .ge 63, 3) := by decide +kernel
theorem dX5_appeal_58 : decode cX5_appeal 58 = .ok (.aload_n 0, 1) := by decide +kernel
theorem dX5_appeal_59 : decode cX5_appeal 59 = .ok (.aload_n 0, 1) := by decide +kernel
theorem dX5_appeal_60 : decode cX5_appeal 60 = .ok (.getfield 21, 3) := by decide +kernel
theorem dX5_appeal_63 : decode cX5_appeal 63 = .ok (.iload_n 3, 1) := by decide +kernel
theorem dX5_appeal_64 : decode cX5_appeal 64 = .ok (.invokevirtual 197, 3) := by decide +kernel
theorem dX5_appeal_67 : decode cX5_appeal 67 = .ok (.istore 4, 2) := by decide +kernel
theorem dX5_appeal_69 : decode cX5_appeal 69 = .ok (.aload_n 0, 1) := by decide +kernel
theorem dX5_appeal_70 : decode cX5_appeal 70 = .ok (.getfield 45, 3) := by decide +kernel
theorem dX5_appeal_73 : decode cX5_appeal 73 = .ok (.iload 4, 2) := by decide +kernel
theorem dX5_appeal_75 : decode cX5_appeal 75 = .ok (.invokevirtual 221, 3) := by decide +kernel
theorem dX5_appeal_78 : decode cX5_appeal 78 = .ok (.aload_n 0, 1) := by decide +kernel
theorem dX5_appeal_79 : decode cX5_appeal 79 = .ok (.getfield 49, 3) := by decide +kernel
theorem dX5_appeal_82 : decode cX5_appeal 82 = .ok (.iload_n 3, 1) := by decide +kernel
theorem dX5_appeal_83 : decode cX5_appeal 83 = .ok (.iload_n 1, 1) := by decide +kernel
theorem dX5_appeal_84 : decode cX5_appeal 84 = .ok (.if_icmp .ne 7, 3) := by decide +kernel
theorem dX5_appeal_87 : decode cX5_appeal 87 = .ok (.iload_n 2, 1) := by decide +kernel
theorem dX5_appeal_88 : decode cX5_appeal 88 = .ok (.goto 5, 3) := by decide +kernel
theorem dX5_appeal_91 : decode cX5_appeal 91 = .ok (.iload 4, 2) := by decide +kernel
theorem dX5_appeal_93 : decode cX5_appeal 93 = .ok (.invokevirtual 221, 3) := by decide +kernel
theorem dX5_appeal_96 : decode cX5_appeal 96 = .ok (.aload_n 0, 1) := by decide +kernel
theorem dX5_appeal_97 : decode cX5_appeal 97 = .ok (.getfield 45, 3) := by decide +kernel
theorem dX5_appeal_100 : decode cX5_appeal 100 = .ok (.aload_n 0, 1) := by decide +kernel
theorem dX5_appeal_101 : decode cX5_appeal 101 = .ok (.getfield 49, 3) := by decide +kernel
theorem dX5_appeal_104 : decode cX5_appeal 104 = .ok (.invokevirtual 236, 3) := by decide +kernel
theorem dX5_appeal_107 : decode cX5_appeal 107 = .ok (.ifCond .ne 5, 3) := by decide +kernel
theorem dX5_appeal_110 : decode cX5_appeal 110 = .ok (.iload_n 3, 1) := by decide +kernel
theorem dX5_appeal_111 : decode cX5_appeal 111 = .ok (.ireturn, 1) := by decide +kernel
theorem dX5_appeal_112 : decode cX5_appeal 112 = .ok (.iinc 3 1, 3) := by decide +kernel
theorem dX5_appeal_115 : decode cX5_appeal 115 = .ok (.goto (-68), 3) := by decide +kernel
theorem dX5_appeal_118 : decode cX5_appeal 118 = .ok (.bipush (-6), 2) := by decide +kernel
theorem dX5_appeal_120 : decode cX5_appeal 120 = .ok (.ireturn, 1) := by decide +kernel
set_option maxRecDepth 20000 in
theorem ggX5_told_X0_countMayBe : GoodIn wsX5_told wsX0_countMayBe := goodIn_r _ [9, 10, 11, 12, 13, 8, 14, 15, 40, 41, 42, 43, 44, 45, 46, 47, 48, 49, 50] (by decide +kernel) (by decide +kernel)
set_option maxRecDepth 20000 in
theorem gX5_told_X0_countMayBe : GoodIn wsX5_told (wsV RX5 188 RX0 yX0_countMayBe wsX0_countMayBe) := goodIn_app (goodIn_of _ (by decide +kernel)) ggX5_told_X0_countMayBe
set_option maxRecDepth 20000 in
theorem ggX5_told_X5_coveredKinds : GoodIn wsX5_told wsX5_coveredKinds := goodIn_r _ [20, 1, 21, 22, 23, 24, 8, 25, 10, 15, 26, 27, 28, 29, 30, 31, 32, 33, 34, 35, 36, 37, 38, 39, 40, 41, 42, 43, 44, 45, 46, 47, 48, 49, 50, 59, 60] (by decide +kernel) (by decide +kernel)
set_option maxRecDepth 20000 in
theorem gX5_told_X5_coveredKinds : GoodIn wsX5_told (wsV RX5 240 RX5 yX5_coveredKinds wsX5_coveredKinds) := goodIn_app (goodIn_of _ (by decide +kernel)) ggX5_told_X5_coveredKinds
theorem dX5_told_0 : decode cX5_told 0 = .ok (.iload_n 1, 1) := by decide +kernel
theorem dX5_told_1 : decode cX5_told 1 = .ok (.tableswitch 95 0 6 #[43, 51, 61, 69, 77, 85, 90], 43) := by decide +kernel
theorem dX5_told_44 : decode cX5_told 44 = .ok (.aload_n 0, 1) := by decide +kernel
theorem dX5_told_45 : decode cX5_told 45 = .ok (.getfield 10, 3) := by decide +kernel
theorem dX5_told_48 : decode cX5_told 48 = .ok (.getfield 73, 3) := by decide +kernel
theorem dX5_told_51 : decode cX5_told 51 = .ok (.ireturn, 1) := by decide +kernel
theorem dX5_told_52 : decode cX5_told 52 = .ok (.aload_n 0, 1) := by decide +kernel
theorem dX5_told_53 : decode cX5_told 53 = .ok (.getfield 10, 3) := by decide +kernel
theorem dX5_told_56 : decode cX5_told 56 = .ok (.iconst 0, 1) := by decide +kernel
theorem dX5_told_57 : decode cX5_told 57 = .ok (.iconst 0, 1) := by decide +kernel
theorem dX5_told_58 : decode cX5_told 58 = .ok (.invokevirtual 188, 3) := by decide +kernel
theorem dX5_told_61 : decode cX5_told 61 = .ok (.ireturn, 1) := by decide +kernel
theorem dX5_told_62 : decode cX5_told 62 = .ok (.aload_n 0, 1) := by decide +kernel
theorem dX5_told_63 : decode cX5_told 63 = .ok (.getfield 10, 3) := by decide +kernel
theorem dX5_told_66 : decode cX5_told 66 = .ok (.getfield 98, 3) := by decide +kernel
theorem dX5_told_69 : decode cX5_told 69 = .ok (.ireturn, 1) := by decide +kernel
theorem dX5_told_70 : decode cX5_told 70 = .ok (.aload_n 0, 1) := by decide +kernel
theorem dX5_told_71 : decode cX5_told 71 = .ok (.getfield 31, 3) := by decide +kernel
theorem dX5_told_74 : decode cX5_told 74 = .ok (.getfield 63, 3) := by decide +kernel
theorem dX5_told_77 : decode cX5_told 77 = .ok (.ireturn, 1) := by decide +kernel
theorem dX5_told_78 : decode cX5_told 78 = .ok (.aload_n 0, 1) := by decide +kernel
theorem dX5_told_79 : decode cX5_told 79 = .ok (.getfield 38, 3) := by decide +kernel
theorem dX5_told_82 : decode cX5_told 82 = .ok (.getfield 66, 3) := by decide +kernel
theorem dX5_told_85 : decode cX5_told 85 = .ok (.ireturn, 1) := by decide +kernel
theorem dX5_told_86 : decode cX5_told 86 = .ok (.aload_n 0, 1) := by decide +kernel
theorem dX5_told_87 : decode cX5_told 87 = .ok (.getfield 52, 3) := by decide +kernel
theorem dX5_told_90 : decode cX5_told 90 = .ok (.ireturn, 1) := by decide +kernel
theorem dX5_told_91 : decode cX5_told 91 = .ok (.aload_n 0, 1) := by decide +kernel
theorem dX5_told_92 : decode cX5_told 92 = .ok (.invokevirtual 240, 3) := by decide +kernel
theorem dX5_told_95 : decode cX5_told 95 = .ok (.ireturn, 1) := by decide +kernel
theorem dX5_told_96 : decode cX5_told 96 = .ok (.bipush (-2), 2) := by decide +kernel
theorem dX5_told_98 : decode cX5_told 98 = .ok (.ireturn, 1) := by decide +kernel
set_option maxRecDepth 20000 in
theorem ggX5_verdictUnder_X4_knownSo : GoodIn wsX5_verdictUnder wsX4_knownSo := goodIn_r _ [8, 9, 10, 11, 12, 7, 13, 61, 62, 63, 64] (by decide +kernel) (by decide +kernel)
set_option maxRecDepth 20000 in
theorem gX5_verdictUnder_X4_knownSo : GoodIn wsX5_verdictUnder (wsV RX5 179 RX4 yX4_knownSo wsX4_knownSo) := goodIn_app (goodIn_of _ (by decide +kernel)) ggX5_verdictUnder_X4_knownSo
set_option maxRecDepth 20000 in
theorem ggX5_verdictUnder_X4_knownNotSo : GoodIn wsX5_verdictUnder wsX4_knownNotSo := goodIn_r _ [17, 10, 9, 11, 12, 7, 13, 61, 62, 63, 64] (by decide +kernel) (by decide +kernel)
set_option maxRecDepth 20000 in
theorem gX5_verdictUnder_X4_knownNotSo : GoodIn wsX5_verdictUnder (wsV RX5 182 RX4 yX4_knownNotSo wsX4_knownNotSo) := goodIn_app (goodIn_of _ (by decide +kernel)) ggX5_verdictUnder_X4_knownNotSo
set_option maxRecDepth 20000 in
theorem ggX5_verdictUnder_X0_countMayBe : GoodIn wsX5_verdictUnder wsX0_countMayBe := goodIn_r _ [22, 23, 24, 25, 26, 21, 27, 28, 69, 70, 71, 72, 73, 74, 75, 76, 77, 78, 79] (by decide +kernel) (by decide +kernel)
set_option maxRecDepth 20000 in
theorem gX5_verdictUnder_X0_countMayBe : GoodIn wsX5_verdictUnder (wsV RX5 188 RX0 yX0_countMayBe wsX0_countMayBe) := goodIn_app (goodIn_of _ (by decide +kernel)) ggX5_verdictUnder_X0_countMayBe
set_option maxRecDepth 20000 in
theorem ggX5_verdictUnder_X1_firstThatBinds : GoodIn wsX5_verdictUnder wsX1_firstThatBinds := goodIn_r _ [33, 34, 35, 36, 65, 66, 67, 68] (by decide +kernel) (by decide +kernel)
set_option maxRecDepth 20000 in
theorem gX5_verdictUnder_X1_firstThatBinds : GoodIn wsX5_verdictUnder (wsV RX5 194 RX1 yX1_firstThatBinds wsX1_firstThatBinds) := goodIn_app (goodIn_of _ (by decide +kernel)) ggX5_verdictUnder_X1_firstThatBinds
set_option maxRecDepth 20000 in
theorem ggX5_verdictUnder_X3_rulingForAll : GoodIn wsX5_verdictUnder wsX3_rulingForAll := goodIn_r _ [41, 42, 43, 25, 26, 21, 27, 28, 44, 45, 46, 40, 47, 48, 49, 50, 51, 52, 80, 81, 69, 70, 71, 72, 73, 74, 75, 76, 77, 78, 79] (by decide +kernel) (by decide +kernel)
set_option maxRecDepth 20000 in
theorem gX5_verdictUnder_X3_rulingForAll : GoodIn wsX5_verdictUnder (wsV RX5 243 RX3 yX3_rulingForAll wsX3_rulingForAll) := goodIn_app (goodIn_of _ (by decide +kernel)) ggX5_verdictUnder_X3_rulingForAll
theorem dX5_verdictUnder_0 : decode cX5_verdictUnder 0 = .ok (.aload_n 0, 1) := by decide +kernel
theorem dX5_verdictUnder_1 : decode cX5_verdictUnder 1 = .ok (.getfield 31, 3) := by decide +kernel
theorem dX5_verdictUnder_4 : decode cX5_verdictUnder 4 = .ok (.getfield 201, 3) := by decide +kernel
theorem dX5_verdictUnder_7 : decode cX5_verdictUnder 7 = .ok (.iload_n 2, 1) := by decide +kernel
theorem dX5_verdictUnder_8 : decode cX5_verdictUnder 8 = .ok (.iaload, 1) := by decide +kernel
theorem dX5_verdictUnder_9 : decode cX5_verdictUnder 9 = .ok (.iconst (-1), 1) := by decide +kernel
theorem dX5_verdictUnder_10 : decode cX5_verdictUnder 10 = .ok (.if_icmp .eq 13, 3) := by decide +kernel
theorem dX5_verdictUnder_13 : decode cX5_verdictUnder 13 = .ok (.aload_n 0, 1) := by decide +kernel
theorem dX5_verdictUnder_14 : decode cX5_verdictUnder 14 = .ok (.getfield 31, 3) := by decide +kernel
theorem dX5_verdictUnder_17 : decode cX5_verdictUnder 17 = .ok (.getfield 201, 3) := by decide +kernel
theorem dX5_verdictUnder_20 : decode cX5_verdictUnder 20 = .ok (.iload_n 2, 1) := by decide +kernel
theorem dX5_verdictUnder_21 : decode cX5_verdictUnder 21 = .ok (.iaload, 1) := by decide +kernel
theorem dX5_verdictUnder_22 : decode cX5_verdictUnder 22 = .ok (.ireturn, 1) := by decide +kernel
theorem dX5_verdictUnder_23 : decode cX5_verdictUnder 23 = .ok (.aload_n 0, 1) := by decide +kernel
theorem dX5_verdictUnder_24 : decode cX5_verdictUnder 24 = .ok (.getfield 31, 3) := by decide +kernel
theorem dX5_verdictUnder_27 : decode cX5_verdictUnder 27 = .ok (.iload_n 2, 1) := by decide +kernel
theorem dX5_verdictUnder_28 : decode cX5_verdictUnder 28 = .ok (.invokevirtual 179, 3) := by decide +kernel
theorem dX5_verdictUnder_31 : decode cX5_verdictUnder 31 = .ok (.istore_n 3, 1) := by decide +kernel
theorem dX5_verdictUnder_32 : decode cX5_verdictUnder 32 = .ok (.aload_n 0, 1) := by decide +kernel
theorem dX5_verdictUnder_33 : decode cX5_verdictUnder 33 = .ok (.getfield 31, 3) := by decide +kernel
theorem dX5_verdictUnder_36 : decode cX5_verdictUnder 36 = .ok (.iload_n 2, 1) := by decide +kernel
theorem dX5_verdictUnder_37 : decode cX5_verdictUnder 37 = .ok (.invokevirtual 182, 3) := by decide +kernel
theorem dX5_verdictUnder_40 : decode cX5_verdictUnder 40 = .ok (.istore 4, 2) := by decide +kernel
theorem dX5_verdictUnder_42 : decode cX5_verdictUnder 42 = .ok (.aload_n 0, 1) := by decide +kernel
theorem dX5_verdictUnder_43 : decode cX5_verdictUnder 43 = .ok (.getfield 10, 3) := by decide +kernel
theorem dX5_verdictUnder_46 : decode cX5_verdictUnder 46 = .ok (.iload_n 3, 1) := by decide +kernel
theorem dX5_verdictUnder_47 : decode cX5_verdictUnder 47 = .ok (.iload 4, 2) := by decide +kernel
theorem dX5_verdictUnder_49 : decode cX5_verdictUnder 49 = .ok (.invokevirtual 188, 3) := by decide +kernel
theorem dX5_verdictUnder_52 : decode cX5_verdictUnder 52 = .ok (.ifCond .ne 5, 3) := by decide +kernel
theorem dX5_verdictUnder_55 : decode cX5_verdictUnder 55 = .ok (.iconst 0, 1) := by decide +kernel
theorem dX5_verdictUnder_56 : decode cX5_verdictUnder 56 = .ok (.ireturn, 1) := by decide +kernel
theorem dX5_verdictUnder_57 : decode cX5_verdictUnder 57 = .ok (.aload_n 0, 1) := by decide +kernel
theorem dX5_verdictUnder_58 : decode cX5_verdictUnder 58 = .ok (.getfield 38, 3) := by decide +kernel
theorem dX5_verdictUnder_61 : decode cX5_verdictUnder 61 = .ok (.iload_n 3, 1) := by decide +kernel
theorem dX5_verdictUnder_62 : decode cX5_verdictUnder 62 = .ok (.iload 4, 2) := by decide +kernel
theorem dX5_verdictUnder_64 : decode cX5_verdictUnder 64 = .ok (.invokevirtual 194, 3) := by decide +kernel
theorem dX5_verdictUnder_67 : decode cX5_verdictUnder 67 = .ok (.istore 5, 2) := by decide +kernel
theorem dX5_verdictUnder_69 : decode cX5_verdictUnder 69 = .ok (.iload 5, 2) := by decide +kernel
theorem dX5_verdictUnder_71 : decode cX5_verdictUnder 71 = .ok (.bipush (-6), 2) := by decide +kernel
theorem dX5_verdictUnder_73 : decode cX5_verdictUnder 73 = .ok (.if_icmp .eq 14, 3) := by decide +kernel
theorem dX5_verdictUnder_76 : decode cX5_verdictUnder 76 = .ok (.aload_n 0, 1) := by decide +kernel
theorem dX5_verdictUnder_77 : decode cX5_verdictUnder 77 = .ok (.getfield 38, 3) := by decide +kernel
theorem dX5_verdictUnder_80 : decode cX5_verdictUnder 80 = .ok (.getfield 210, 3) := by decide +kernel
theorem dX5_verdictUnder_83 : decode cX5_verdictUnder 83 = .ok (.iload 5, 2) := by decide +kernel
theorem dX5_verdictUnder_85 : decode cX5_verdictUnder 85 = .ok (.iaload, 1) := by decide +kernel
theorem dX5_verdictUnder_86 : decode cX5_verdictUnder 86 = .ok (.ireturn, 1) := by decide +kernel
theorem dX5_verdictUnder_87 : decode cX5_verdictUnder 87 = .ok (.aload_n 1, 1) := by decide +kernel
theorem dX5_verdictUnder_88 : decode cX5_verdictUnder 88 = .ok (.iload_n 3, 1) := by decide +kernel
theorem dX5_verdictUnder_89 : decode cX5_verdictUnder 89 = .ok (.iload 4, 2) := by decide +kernel
theorem dX5_verdictUnder_91 : decode cX5_verdictUnder 91 = .ok (.invokevirtual 243, 3) := by decide +kernel
theorem dX5_verdictUnder_94 : decode cX5_verdictUnder 94 = .ok (.ireturn, 1) := by decide +kernel
set_option maxRecDepth 20000 in
theorem ggX5_coveredKinds_X0_hasKind : GoodIn wsX5_coveredKinds wsX0_hasKind := goodIn_r _ [7, 8, 9, 24, 25, 26, 27, 28, 29, 30, 31, 32, 33, 34] (by decide +kernel) (by decide +kernel)
set_option maxRecDepth 20000 in
theorem gX5_coveredKinds_X0_hasKind : GoodIn wsX5_coveredKinds (wsV RX5 143 RX0 yX0_hasKind wsX0_hasKind) := goodIn_app (goodIn_of _ (by decide +kernel)) ggX5_coveredKinds_X0_hasKind
set_option maxRecDepth 20000 in
theorem ggX5_coveredKinds_X3_covers : GoodIn wsX5_coveredKinds wsX3_covers := goodIn_r _ [14, 15, 35, 36] (by decide +kernel) (by decide +kernel)
set_option maxRecDepth 20000 in
theorem gX5_coveredKinds_X3_covers : GoodIn wsX5_coveredKinds (wsV RX5 162 RX3 yX3_covers wsX3_covers) := goodIn_app (goodIn_of _ (by decide +kernel)) ggX5_coveredKinds_X3_covers
theorem dX5_coveredKinds_0 : decode cX5_coveredKinds 0 = .ok (.iconst 0, 1) := by decide +kernel
theorem dX5_coveredKinds_1 : decode cX5_coveredKinds 1 = .ok (.istore_n 1, 1) := by decide +kernel
theorem dX5_coveredKinds_2 : decode cX5_coveredKinds 2 = .ok (.iconst 0, 1) := by decide +kernel
theorem dX5_coveredKinds_3 : decode cX5_coveredKinds 3 = .ok (.istore_n 2, 1) := by decide +kernel
theorem dX5_coveredKinds_4 : decode cX5_coveredKinds 4 = .ok (.iload_n 2, 1) := by decide +kernel
theorem dX5_coveredKinds_5 : decode cX5_coveredKinds 5 = .ok (.aload_n 0, 1) := by decide +kernel
theorem dX5_coveredKinds_6 : decode cX5_coveredKinds 6 = .ok (.getfield 10, 3) := by decide +kernel
theorem dX5_coveredKinds_9 : decode cX5_coveredKinds 9 = .ok (.getfield 159, 3) := by decide +kernel
theorem dX5_coveredKinds_12 : decode cX5_coveredKinds 12 = .ok (.if_icmp .ge 34, 3) := by decide +kernel
theorem dX5_coveredKinds_15 : decode cX5_coveredKinds 15 = .ok (.aload_n 0, 1) := by decide +kernel
theorem dX5_coveredKinds_16 : decode cX5_coveredKinds 16 = .ok (.getfield 10, 3) := by decide +kernel
theorem dX5_coveredKinds_19 : decode cX5_coveredKinds 19 = .ok (.iload_n 2, 1) := by decide +kernel
theorem dX5_coveredKinds_20 : decode cX5_coveredKinds 20 = .ok (.invokevirtual 143, 3) := by decide +kernel
theorem dX5_coveredKinds_23 : decode cX5_coveredKinds 23 = .ok (.ifCond .eq 17, 3) := by decide +kernel
theorem dX5_coveredKinds_26 : decode cX5_coveredKinds 26 = .ok (.aload_n 0, 1) := by decide +kernel
theorem dX5_coveredKinds_27 : decode cX5_coveredKinds 27 = .ok (.getfield 21, 3) := by decide +kernel
theorem dX5_coveredKinds_30 : decode cX5_coveredKinds 30 = .ok (.iload_n 2, 1) := by decide +kernel
theorem dX5_coveredKinds_31 : decode cX5_coveredKinds 31 = .ok (.invokevirtual 162, 3) := by decide +kernel
theorem dX5_coveredKinds_34 : decode cX5_coveredKinds 34 = .ok (.ifCond .eq 6, 3) := by decide +kernel
theorem dX5_coveredKinds_37 : decode cX5_coveredKinds 37 = .ok (.iinc 1 1, 3) := by decide +kernel
theorem dX5_coveredKinds_40 : decode cX5_coveredKinds 40 = .ok (.iinc 2 1, 3) := by decide +kernel
theorem dX5_coveredKinds_43 : decode cX5_coveredKinds 43 = .ok (.goto (-39), 3) := by decide +kernel
theorem dX5_coveredKinds_46 : decode cX5_coveredKinds 46 = .ok (.iload_n 1, 1) := by decide +kernel
theorem dX5_coveredKinds_47 : decode cX5_coveredKinds 47 = .ok (.ireturn, 1) := by decide +kernel
set_option maxRecDepth 20000 in
theorem ggX5_turnedKinds_X0_hasKind : GoodIn wsX5_turnedKinds wsX0_hasKind := goodIn_r _ [8, 9, 10, 34, 35, 36, 37, 38, 39, 40, 41, 42, 43, 44] (by decide +kernel) (by decide +kernel)
set_option maxRecDepth 20000 in
theorem gX5_turnedKinds_X0_hasKind : GoodIn wsX5_turnedKinds (wsV RX5 143 RX0 yX0_hasKind wsX0_hasKind) := goodIn_app (goodIn_of _ (by decide +kernel)) ggX5_turnedKinds_X0_hasKind
set_option maxRecDepth 20000 in
theorem ggX5_turnedKinds_X3_differFor : GoodIn wsX5_turnedKinds wsX3_differFor := goodIn_r _ [15, 16, 17, 18, 14, 19, 20, 21, 22, 23, 24, 25, 45, 46, 34, 35, 36, 37, 38, 39, 40, 41, 42, 43, 44] (by decide +kernel) (by decide +kernel)
set_option maxRecDepth 20000 in
theorem gX5_turnedKinds_X3_differFor : GoodIn wsX5_turnedKinds (wsV RX5 246 RX3 yX3_differFor wsX3_differFor) := goodIn_app (goodIn_of _ (by decide +kernel)) ggX5_turnedKinds_X3_differFor
theorem dX5_turnedKinds_0 : decode cX5_turnedKinds 0 = .ok (.iconst 0, 1) := by decide +kernel
theorem dX5_turnedKinds_1 : decode cX5_turnedKinds 1 = .ok (.istore_n 1, 1) := by decide +kernel
theorem dX5_turnedKinds_2 : decode cX5_turnedKinds 2 = .ok (.iconst 0, 1) := by decide +kernel
theorem dX5_turnedKinds_3 : decode cX5_turnedKinds 3 = .ok (.istore_n 2, 1) := by decide +kernel
theorem dX5_turnedKinds_4 : decode cX5_turnedKinds 4 = .ok (.iload_n 2, 1) := by decide +kernel
theorem dX5_turnedKinds_5 : decode cX5_turnedKinds 5 = .ok (.aload_n 0, 1) := by decide +kernel
theorem dX5_turnedKinds_6 : decode cX5_turnedKinds 6 = .ok (.getfield 10, 3) := by decide +kernel
theorem dX5_turnedKinds_9 : decode cX5_turnedKinds 9 = .ok (.getfield 159, 3) := by decide +kernel
theorem dX5_turnedKinds_12 : decode cX5_turnedKinds 12 = .ok (.if_icmp .ge 38, 3) := by decide +kernel
theorem dX5_turnedKinds_15 : decode cX5_turnedKinds 15 = .ok (.aload_n 0, 1) := by decide +kernel
theorem dX5_turnedKinds_16 : decode cX5_turnedKinds 16 = .ok (.getfield 10, 3) := by decide +kernel
theorem dX5_turnedKinds_19 : decode cX5_turnedKinds 19 = .ok (.iload_n 2, 1) := by decide +kernel
theorem dX5_turnedKinds_20 : decode cX5_turnedKinds 20 = .ok (.invokevirtual 143, 3) := by decide +kernel
theorem dX5_turnedKinds_23 : decode cX5_turnedKinds 23 = .ok (.ifCond .eq 21, 3) := by decide +kernel
theorem dX5_turnedKinds_26 : decode cX5_turnedKinds 26 = .ok (.aload_n 0, 1) := by decide +kernel
theorem dX5_turnedKinds_27 : decode cX5_turnedKinds 27 = .ok (.getfield 21, 3) := by decide +kernel
theorem dX5_turnedKinds_30 : decode cX5_turnedKinds 30 = .ok (.iload_n 2, 1) := by decide +kernel
theorem dX5_turnedKinds_31 : decode cX5_turnedKinds 31 = .ok (.aload_n 0, 1) := by decide +kernel
theorem dX5_turnedKinds_32 : decode cX5_turnedKinds 32 = .ok (.getfield 25, 3) := by decide +kernel
theorem dX5_turnedKinds_35 : decode cX5_turnedKinds 35 = .ok (.invokevirtual 246, 3) := by decide +kernel
theorem dX5_turnedKinds_38 : decode cX5_turnedKinds 38 = .ok (.ifCond .eq 6, 3) := by decide +kernel
theorem dX5_turnedKinds_41 : decode cX5_turnedKinds 41 = .ok (.iinc 1 1, 3) := by decide +kernel
theorem dX5_turnedKinds_44 : decode cX5_turnedKinds 44 = .ok (.iinc 2 1, 3) := by decide +kernel
theorem dX5_turnedKinds_47 : decode cX5_turnedKinds 47 = .ok (.goto (-43), 3) := by decide +kernel
theorem dX5_turnedKinds_50 : decode cX5_turnedKinds 50 = .ok (.iload_n 1, 1) := by decide +kernel
theorem dX5_turnedKinds_51 : decode cX5_turnedKinds 51 = .ok (.ireturn, 1) := by decide +kernel
set_option maxRecDepth 20000 in
theorem ggX5_casesOfTurnedKinds_X3_differFor : GoodIn wsX5_casesOfTurnedKinds wsX3_differFor := goodIn_r _ [8, 9, 10, 11, 7, 12, 13, 14, 15, 16, 17, 18, 31, 32, 33, 34, 35, 36, 37, 38, 39, 40, 41, 42, 43] (by decide +kernel) (by decide +kernel)
set_option maxRecDepth 20000 in
theorem gX5_casesOfTurnedKinds_X3_differFor : GoodIn wsX5_casesOfTurnedKinds (wsV RX5 246 RX3 yX3_differFor wsX3_differFor) := goodIn_app (goodIn_of _ (by decide +kernel)) ggX5_casesOfTurnedKinds_X3_differFor
theorem dX5_casesOfTurnedKinds_0 : decode cX5_casesOfTurnedKinds 0 = .ok (.iconst 0, 1) := by decide +kernel
theorem dX5_casesOfTurnedKinds_1 : decode cX5_casesOfTurnedKinds 1 = .ok (.istore_n 1, 1) := by decide +kernel
theorem dX5_casesOfTurnedKinds_2 : decode cX5_casesOfTurnedKinds 2 = .ok (.iconst 0, 1) := by decide +kernel
theorem dX5_casesOfTurnedKinds_3 : decode cX5_casesOfTurnedKinds 3 = .ok (.istore_n 2, 1) := by decide +kernel
theorem dX5_casesOfTurnedKinds_4 : decode cX5_casesOfTurnedKinds 4 = .ok (.iload_n 2, 1) := by decide +kernel
theorem dX5_casesOfTurnedKinds_5 : decode cX5_casesOfTurnedKinds 5 = .ok (.aload_n 0, 1) := by decide +kernel
theorem dX5_casesOfTurnedKinds_6 : decode cX5_casesOfTurnedKinds 6 = .ok (.getfield 38, 3) := by decide +kernel
theorem dX5_casesOfTurnedKinds_9 : decode cX5_casesOfTurnedKinds 9 = .ok (.getfield 66, 3) := by decide +kernel
theorem dX5_casesOfTurnedKinds_12 : decode cX5_casesOfTurnedKinds 12 = .ok (.if_icmp .ge 35, 3) := by decide +kernel
theorem dX5_casesOfTurnedKinds_15 : decode cX5_casesOfTurnedKinds 15 = .ok (.aload_n 0, 1) := by decide +kernel
theorem dX5_casesOfTurnedKinds_16 : decode cX5_casesOfTurnedKinds 16 = .ok (.getfield 21, 3) := by decide +kernel
theorem dX5_casesOfTurnedKinds_19 : decode cX5_casesOfTurnedKinds 19 = .ok (.aload_n 0, 1) := by decide +kernel
theorem dX5_casesOfTurnedKinds_20 : decode cX5_casesOfTurnedKinds 20 = .ok (.getfield 38, 3) := by decide +kernel
theorem dX5_casesOfTurnedKinds_23 : decode cX5_casesOfTurnedKinds 23 = .ok (.getfield 207, 3) := by decide +kernel
theorem dX5_casesOfTurnedKinds_26 : decode cX5_casesOfTurnedKinds 26 = .ok (.iload_n 2, 1) := by decide +kernel
theorem dX5_casesOfTurnedKinds_27 : decode cX5_casesOfTurnedKinds 27 = .ok (.iaload, 1) := by decide +kernel
theorem dX5_casesOfTurnedKinds_28 : decode cX5_casesOfTurnedKinds 28 = .ok (.aload_n 0, 1) := by decide +kernel
theorem dX5_casesOfTurnedKinds_29 : decode cX5_casesOfTurnedKinds 29 = .ok (.getfield 25, 3) := by decide +kernel
theorem dX5_casesOfTurnedKinds_32 : decode cX5_casesOfTurnedKinds 32 = .ok (.invokevirtual 246, 3) := by decide +kernel
theorem dX5_casesOfTurnedKinds_35 : decode cX5_casesOfTurnedKinds 35 = .ok (.ifCond .eq 6, 3) := by decide +kernel
theorem dX5_casesOfTurnedKinds_38 : decode cX5_casesOfTurnedKinds 38 = .ok (.iinc 1 1, 3) := by decide +kernel
theorem dX5_casesOfTurnedKinds_41 : decode cX5_casesOfTurnedKinds 41 = .ok (.iinc 2 1, 3) := by decide +kernel
theorem dX5_casesOfTurnedKinds_44 : decode cX5_casesOfTurnedKinds 44 = .ok (.goto (-40), 3) := by decide +kernel
theorem dX5_casesOfTurnedKinds_47 : decode cX5_casesOfTurnedKinds 47 = .ok (.iload_n 1, 1) := by decide +kernel
theorem dX5_casesOfTurnedKinds_48 : decode cX5_casesOfTurnedKinds 48 = .ok (.ireturn, 1) := by decide +kernel
set_option maxRecDepth 20000 in
theorem ggX5_turnedVerdicts_X5_verdictUnder : GoodIn wsX5_turnedVerdicts wsX5_verdictUnder := goodIn_r _ [8, 1, 9, 10, 11, 12, 13, 14, 15, 16, 17, 18, 19, 20, 21, 22, 23, 24, 25, 26, 27, 28, 29, 30, 31, 32, 33, 34, 35, 36, 37, 38, 39, 40, 41, 42, 43, 44, 45, 46, 47, 48, 49, 50, 51, 52, 53, 54, 55, 56, 57, 58, 59, 60, 61, 62, 63, 64, 65, 66, 67, 68, 69, 70, 71, 72, 73, 74, 75, 76, 77, 78, 79, 80, 81, 82, 83, 84, 85, 86, 87, 88] (by decide +kernel) (by decide +kernel)
set_option maxRecDepth 20000 in
theorem gX5_turnedVerdicts_X5_verdictUnder : GoodIn wsX5_turnedVerdicts (wsV RX5 197 RX5 yX5_verdictUnder wsX5_verdictUnder) := goodIn_app (goodIn_of _ (by decide +kernel)) ggX5_turnedVerdicts_X5_verdictUnder
theorem dX5_turnedVerdicts_0 : decode cX5_turnedVerdicts 0 = .ok (.iconst 0, 1) := by decide +kernel
theorem dX5_turnedVerdicts_1 : decode cX5_turnedVerdicts 1 = .ok (.istore_n 1, 1) := by decide +kernel
theorem dX5_turnedVerdicts_2 : decode cX5_turnedVerdicts 2 = .ok (.iconst 0, 1) := by decide +kernel
theorem dX5_turnedVerdicts_3 : decode cX5_turnedVerdicts 3 = .ok (.istore_n 2, 1) := by decide +kernel
theorem dX5_turnedVerdicts_4 : decode cX5_turnedVerdicts 4 = .ok (.iload_n 2, 1) := by decide +kernel
theorem dX5_turnedVerdicts_5 : decode cX5_turnedVerdicts 5 = .ok (.aload_n 0, 1) := by decide +kernel
theorem dX5_turnedVerdicts_6 : decode cX5_turnedVerdicts 6 = .ok (.getfield 31, 3) := by decide +kernel
theorem dX5_turnedVerdicts_9 : decode cX5_turnedVerdicts 9 = .ok (.getfield 63, 3) := by decide +kernel
theorem dX5_turnedVerdicts_12 : decode cX5_turnedVerdicts 12 = .ok (.if_icmp .ge 33, 3) := by decide +kernel
theorem dX5_turnedVerdicts_15 : decode cX5_turnedVerdicts 15 = .ok (.aload_n 0, 1) := by decide +kernel
theorem dX5_turnedVerdicts_16 : decode cX5_turnedVerdicts 16 = .ok (.aload_n 0, 1) := by decide +kernel
theorem dX5_turnedVerdicts_17 : decode cX5_turnedVerdicts 17 = .ok (.getfield 21, 3) := by decide +kernel
theorem dX5_turnedVerdicts_20 : decode cX5_turnedVerdicts 20 = .ok (.iload_n 2, 1) := by decide +kernel
theorem dX5_turnedVerdicts_21 : decode cX5_turnedVerdicts 21 = .ok (.invokevirtual 197, 3) := by decide +kernel
theorem dX5_turnedVerdicts_24 : decode cX5_turnedVerdicts 24 = .ok (.aload_n 0, 1) := by decide +kernel
theorem dX5_turnedVerdicts_25 : decode cX5_turnedVerdicts 25 = .ok (.aload_n 0, 1) := by decide +kernel
theorem dX5_turnedVerdicts_26 : decode cX5_turnedVerdicts 26 = .ok (.getfield 25, 3) := by decide +kernel
theorem dX5_turnedVerdicts_29 : decode cX5_turnedVerdicts 29 = .ok (.iload_n 2, 1) := by decide +kernel
theorem dX5_turnedVerdicts_30 : decode cX5_turnedVerdicts 30 = .ok (.invokevirtual 197, 3) := by decide +kernel
theorem dX5_turnedVerdicts_33 : decode cX5_turnedVerdicts 33 = .ok (.if_icmp .eq 6, 3) := by decide +kernel
theorem dX5_turnedVerdicts_36 : decode cX5_turnedVerdicts 36 = .ok (.iinc 1 1, 3) := by decide +kernel
theorem dX5_turnedVerdicts_39 : decode cX5_turnedVerdicts 39 = .ok (.iinc 2 1, 3) := by decide +kernel
theorem dX5_turnedVerdicts_42 : decode cX5_turnedVerdicts 42 = .ok (.goto (-38), 3) := by decide +kernel
theorem dX5_turnedVerdicts_45 : decode cX5_turnedVerdicts 45 = .ok (.iload_n 1, 1) := by decide +kernel
theorem dX5_turnedVerdicts_46 : decode cX5_turnedVerdicts 46 = .ok (.ireturn, 1) := by decide +kernel
theorem dJ6_bitCount_0f7a4_0 : decode cJ6_bitCount_0f7a4 0 = .ok (.iload_n 0, 1) := by decide +kernel
theorem dJ6_bitCount_0f7a4_1 : decode cJ6_bitCount_0f7a4 1 = .ok (.iload_n 0, 1) := by decide +kernel
theorem dJ6_bitCount_0f7a4_2 : decode cJ6_bitCount_0f7a4 2 = .ok (.iconst 1, 1) := by decide +kernel
theorem dJ6_bitCount_0f7a4_3 : decode cJ6_bitCount_0f7a4 3 = .ok (.iushr, 1) := by decide +kernel
theorem dJ6_bitCount_0f7a4_4 : decode cJ6_bitCount_0f7a4 4 = .ok (.ldc_w 265, 3) := by decide +kernel
theorem dJ6_bitCount_0f7a4_7 : decode cJ6_bitCount_0f7a4 7 = .ok (.iand, 1) := by decide +kernel
theorem dJ6_bitCount_0f7a4_8 : decode cJ6_bitCount_0f7a4 8 = .ok (.isub, 1) := by decide +kernel
theorem dJ6_bitCount_0f7a4_9 : decode cJ6_bitCount_0f7a4 9 = .ok (.istore_n 0, 1) := by decide +kernel
theorem dJ6_bitCount_0f7a4_10 : decode cJ6_bitCount_0f7a4 10 = .ok (.iload_n 0, 1) := by decide +kernel
theorem dJ6_bitCount_0f7a4_11 : decode cJ6_bitCount_0f7a4 11 = .ok (.ldc_w 266, 3) := by decide +kernel
theorem dJ6_bitCount_0f7a4_14 : decode cJ6_bitCount_0f7a4 14 = .ok (.iand, 1) := by decide +kernel
theorem dJ6_bitCount_0f7a4_15 : decode cJ6_bitCount_0f7a4 15 = .ok (.iload_n 0, 1) := by decide +kernel
theorem dJ6_bitCount_0f7a4_16 : decode cJ6_bitCount_0f7a4 16 = .ok (.iconst 2, 1) := by decide +kernel
theorem dJ6_bitCount_0f7a4_17 : decode cJ6_bitCount_0f7a4 17 = .ok (.iushr, 1) := by decide +kernel
theorem dJ6_bitCount_0f7a4_18 : decode cJ6_bitCount_0f7a4 18 = .ok (.ldc_w 266, 3) := by decide +kernel
theorem dJ6_bitCount_0f7a4_21 : decode cJ6_bitCount_0f7a4 21 = .ok (.iand, 1) := by decide +kernel
theorem dJ6_bitCount_0f7a4_22 : decode cJ6_bitCount_0f7a4 22 = .ok (.iadd, 1) := by decide +kernel
theorem dJ6_bitCount_0f7a4_23 : decode cJ6_bitCount_0f7a4 23 = .ok (.istore_n 0, 1) := by decide +kernel
theorem dJ6_bitCount_0f7a4_24 : decode cJ6_bitCount_0f7a4 24 = .ok (.iload_n 0, 1) := by decide +kernel
theorem dJ6_bitCount_0f7a4_25 : decode cJ6_bitCount_0f7a4 25 = .ok (.iload_n 0, 1) := by decide +kernel
theorem dJ6_bitCount_0f7a4_26 : decode cJ6_bitCount_0f7a4 26 = .ok (.iconst 4, 1) := by decide +kernel
theorem dJ6_bitCount_0f7a4_27 : decode cJ6_bitCount_0f7a4 27 = .ok (.iushr, 1) := by decide +kernel
theorem dJ6_bitCount_0f7a4_28 : decode cJ6_bitCount_0f7a4 28 = .ok (.iadd, 1) := by decide +kernel
theorem dJ6_bitCount_0f7a4_29 : decode cJ6_bitCount_0f7a4 29 = .ok (.ldc_w 267, 3) := by decide +kernel
theorem dJ6_bitCount_0f7a4_32 : decode cJ6_bitCount_0f7a4 32 = .ok (.iand, 1) := by decide +kernel
theorem dJ6_bitCount_0f7a4_33 : decode cJ6_bitCount_0f7a4 33 = .ok (.istore_n 0, 1) := by decide +kernel
theorem dJ6_bitCount_0f7a4_34 : decode cJ6_bitCount_0f7a4 34 = .ok (.iload_n 0, 1) := by decide +kernel
theorem dJ6_bitCount_0f7a4_35 : decode cJ6_bitCount_0f7a4 35 = .ok (.iload_n 0, 1) := by decide +kernel
theorem dJ6_bitCount_0f7a4_36 : decode cJ6_bitCount_0f7a4 36 = .ok (.bipush 8, 2) := by decide +kernel
theorem dJ6_bitCount_0f7a4_38 : decode cJ6_bitCount_0f7a4 38 = .ok (.iushr, 1) := by decide +kernel
theorem dJ6_bitCount_0f7a4_39 : decode cJ6_bitCount_0f7a4 39 = .ok (.iadd, 1) := by decide +kernel
theorem dJ6_bitCount_0f7a4_40 : decode cJ6_bitCount_0f7a4 40 = .ok (.istore_n 0, 1) := by decide +kernel
theorem dJ6_bitCount_0f7a4_41 : decode cJ6_bitCount_0f7a4 41 = .ok (.iload_n 0, 1) := by decide +kernel
theorem dJ6_bitCount_0f7a4_42 : decode cJ6_bitCount_0f7a4 42 = .ok (.iload_n 0, 1) := by decide +kernel
theorem dJ6_bitCount_0f7a4_43 : decode cJ6_bitCount_0f7a4 43 = .ok (.bipush 16, 2) := by decide +kernel
theorem dJ6_bitCount_0f7a4_45 : decode cJ6_bitCount_0f7a4 45 = .ok (.iushr, 1) := by decide +kernel
theorem dJ6_bitCount_0f7a4_46 : decode cJ6_bitCount_0f7a4 46 = .ok (.iadd, 1) := by decide +kernel
theorem dJ6_bitCount_0f7a4_47 : decode cJ6_bitCount_0f7a4 47 = .ok (.istore_n 0, 1) := by decide +kernel
theorem dJ6_bitCount_0f7a4_48 : decode cJ6_bitCount_0f7a4 48 = .ok (.iload_n 0, 1) := by decide +kernel
theorem dJ6_bitCount_0f7a4_49 : decode cJ6_bitCount_0f7a4 49 = .ok (.bipush 63, 2) := by decide +kernel
theorem dJ6_bitCount_0f7a4_51 : decode cJ6_bitCount_0f7a4 51 = .ok (.iand, 1) := by decide +kernel
theorem dJ6_bitCount_0f7a4_52 : decode cJ6_bitCount_0f7a4 52 = .ok (.ireturn, 1) := by decide +kernel
