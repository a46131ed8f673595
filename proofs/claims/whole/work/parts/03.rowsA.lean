theorem dX0_init_0 : decode cX0_init 0 = .ok (.aload_n 0, 1) := by decide +kernel
theorem dX0_init_1 : decode cX0_init 1 = .ok (.invokespecial 3, 3) := by decide +kernel
theorem dX0_init_4 : decode cX0_init 4 = .ok (.aload_n 0, 1) := by decide +kernel
theorem dX0_init_5 : decode cX0_init 5 = .ok (.sipush 128, 3) := by decide +kernel
theorem dX0_init_8 : decode cX0_init 8 = .ok (.newarray .boolean, 2) := by decide +kernel
theorem dX0_init_10 : decode cX0_init 10 = .ok (.putfield 9, 3) := by decide +kernel
theorem dX0_init_13 : decode cX0_init 13 = .ok (.aload_n 0, 1) := by decide +kernel
theorem dX0_init_14 : decode cX0_init 14 = .ok (.bipush 7, 2) := by decide +kernel
theorem dX0_init_16 : decode cX0_init 16 = .ok (.newarray .int, 2) := by decide +kernel
theorem dX0_init_18 : decode cX0_init 18 = .ok (.putfield 15, 3) := by decide +kernel
theorem dX0_init_21 : decode cX0_init 21 = .ok (.aload_n 0, 1) := by decide +kernel
theorem dX0_init_22 : decode cX0_init 22 = .ok (.bipush 12, 2) := by decide +kernel
theorem dX0_init_24 : decode cX0_init 24 = .ok (.newarray .int, 2) := by decide +kernel
theorem dX0_init_26 : decode cX0_init 26 = .ok (.putfield 19, 3) := by decide +kernel
theorem dX0_init_29 : decode cX0_init 29 = .ok (.aload_n 0, 1) := by decide +kernel
theorem dX0_init_30 : decode cX0_init 30 = .ok (.bipush 12, 2) := by decide +kernel
theorem dX0_init_32 : decode cX0_init 32 = .ok (.newarray .int, 2) := by decide +kernel
theorem dX0_init_34 : decode cX0_init 34 = .ok (.putfield 22, 3) := by decide +kernel
theorem dX0_init_37 : decode cX0_init 37 = .ok (.aload_n 0, 1) := by decide +kernel
theorem dX0_init_38 : decode cX0_init 38 = .ok (.bipush 12, 2) := by decide +kernel
theorem dX0_init_40 : decode cX0_init 40 = .ok (.newarray .int, 2) := by decide +kernel
theorem dX0_init_42 : decode cX0_init 42 = .ok (.putfield 25, 3) := by decide +kernel
theorem dX0_init_45 : decode cX0_init 45 = .ok (.aload_n 0, 1) := by decide +kernel
theorem dX0_init_46 : decode cX0_init 46 = .ok (.bipush 12, 2) := by decide +kernel
theorem dX0_init_48 : decode cX0_init 48 = .ok (.newarray .int, 2) := by decide +kernel
theorem dX0_init_50 : decode cX0_init 50 = .ok (.putfield 28, 3) := by decide +kernel
theorem dX0_init_53 : decode cX0_init 53 = .ok (.return_, 1) := by decide +kernel
set_option maxRecDepth 20000 in
theorem ggX0_begin_X0_workKinds : GoodIn wsX0_begin wsX0_workKinds := goodIn_r _ [11, 2, 12, 13, 14, 15, 10, 16, 1, 6, 17, 18, 19, 20, 21, 22, 23, 24, 25, 26, 27, 28, 29, 30] (by decide +kernel) (by decide +kernel)
set_option maxRecDepth 20000 in
theorem gX0_begin_X0_workKinds : GoodIn wsX0_begin (wsV RX0 47 RX0 yX0_workKinds wsX0_workKinds) := goodIn_app (goodIn_of _ (by decide +kernel)) ggX0_begin_X0_workKinds
theorem dX0_begin_0 : decode cX0_begin 0 = .ok (.aload_n 0, 1) := by decide +kernel
theorem dX0_begin_1 : decode cX0_begin 1 = .ok (.iload_n 1, 1) := by decide +kernel
theorem dX0_begin_2 : decode cX0_begin 2 = .ok (.putfield 31, 3) := by decide +kernel
theorem dX0_begin_5 : decode cX0_begin 5 = .ok (.aload_n 0, 1) := by decide +kernel
theorem dX0_begin_6 : decode cX0_begin 6 = .ok (.iconst 1, 1) := by decide +kernel
theorem dX0_begin_7 : decode cX0_begin 7 = .ok (.iload_n 1, 1) := by decide +kernel
theorem dX0_begin_8 : decode cX0_begin 8 = .ok (.ishl, 1) := by decide +kernel
theorem dX0_begin_9 : decode cX0_begin 9 = .ok (.putfield 35, 3) := by decide +kernel
theorem dX0_begin_12 : decode cX0_begin 12 = .ok (.aload_n 0, 1) := by decide +kernel
theorem dX0_begin_13 : decode cX0_begin 13 = .ok (.iconst 0, 1) := by decide +kernel
theorem dX0_begin_14 : decode cX0_begin 14 = .ok (.putfield 38, 3) := by decide +kernel
theorem dX0_begin_17 : decode cX0_begin 17 = .ok (.aload_n 0, 1) := by decide +kernel
theorem dX0_begin_18 : decode cX0_begin 18 = .ok (.iconst 0, 1) := by decide +kernel
theorem dX0_begin_19 : decode cX0_begin 19 = .ok (.putfield 41, 3) := by decide +kernel
theorem dX0_begin_22 : decode cX0_begin 22 = .ok (.aload_n 0, 1) := by decide +kernel
theorem dX0_begin_23 : decode cX0_begin 23 = .ok (.iconst 0, 1) := by decide +kernel
theorem dX0_begin_24 : decode cX0_begin 24 = .ok (.putfield 44, 3) := by decide +kernel
theorem dX0_begin_27 : decode cX0_begin 27 = .ok (.iconst 0, 1) := by decide +kernel
theorem dX0_begin_28 : decode cX0_begin 28 = .ok (.istore_n 2, 1) := by decide +kernel
theorem dX0_begin_29 : decode cX0_begin 29 = .ok (.iload_n 2, 1) := by decide +kernel
theorem dX0_begin_30 : decode cX0_begin 30 = .ok (.bipush 7, 2) := by decide +kernel
theorem dX0_begin_32 : decode cX0_begin 32 = .ok (.if_icmp .ge 16, 3) := by decide +kernel
theorem dX0_begin_35 : decode cX0_begin 35 = .ok (.aload_n 0, 1) := by decide +kernel
theorem dX0_begin_36 : decode cX0_begin 36 = .ok (.getfield 15, 3) := by decide +kernel
theorem dX0_begin_39 : decode cX0_begin 39 = .ok (.iload_n 2, 1) := by decide +kernel
theorem dX0_begin_40 : decode cX0_begin 40 = .ok (.iconst 0, 1) := by decide +kernel
theorem dX0_begin_41 : decode cX0_begin 41 = .ok (.iastore, 1) := by decide +kernel
theorem dX0_begin_42 : decode cX0_begin 42 = .ok (.iinc 2 1, 3) := by decide +kernel
theorem dX0_begin_45 : decode cX0_begin 45 = .ok (.goto (-16), 3) := by decide +kernel
theorem dX0_begin_48 : decode cX0_begin 48 = .ok (.aload_n 0, 1) := by decide +kernel
theorem dX0_begin_49 : decode cX0_begin 49 = .ok (.invokevirtual 47, 3) := by decide +kernel
theorem dX0_begin_52 : decode cX0_begin 52 = .ok (.return_, 1) := by decide +kernel
theorem dX0_hasFact_0 : decode cX0_hasFact 0 = .ok (.iload_n 1, 1) := by decide +kernel
theorem dX0_hasFact_1 : decode cX0_hasFact 1 = .ok (.ifCond .lt 15, 3) := by decide +kernel
theorem dX0_hasFact_4 : decode cX0_hasFact 4 = .ok (.iload_n 1, 1) := by decide +kernel
theorem dX0_hasFact_5 : decode cX0_hasFact 5 = .ok (.aload_n 0, 1) := by decide +kernel
theorem dX0_hasFact_6 : decode cX0_hasFact 6 = .ok (.getfield 31, 3) := by decide +kernel
theorem dX0_hasFact_9 : decode cX0_hasFact 9 = .ok (.if_icmp .ge 7, 3) := by decide +kernel
theorem dX0_hasFact_12 : decode cX0_hasFact 12 = .ok (.iconst 1, 1) := by decide +kernel
theorem dX0_hasFact_13 : decode cX0_hasFact 13 = .ok (.goto 4, 3) := by decide +kernel
theorem dX0_hasFact_16 : decode cX0_hasFact 16 = .ok (.iconst 0, 1) := by decide +kernel
theorem dX0_hasFact_17 : decode cX0_hasFact 17 = .ok (.ireturn, 1) := by decide +kernel
theorem dX0_areFacts_0 : decode cX0_areFacts 0 = .ok (.iload_n 1, 1) := by decide +kernel
theorem dX0_areFacts_1 : decode cX0_areFacts 1 = .ok (.ifCond .lt 15, 3) := by decide +kernel
theorem dX0_areFacts_4 : decode cX0_areFacts 4 = .ok (.iload_n 1, 1) := by decide +kernel
theorem dX0_areFacts_5 : decode cX0_areFacts 5 = .ok (.aload_n 0, 1) := by decide +kernel
theorem dX0_areFacts_6 : decode cX0_areFacts 6 = .ok (.getfield 35, 3) := by decide +kernel
theorem dX0_areFacts_9 : decode cX0_areFacts 9 = .ok (.if_icmp .ge 7, 3) := by decide +kernel
theorem dX0_areFacts_12 : decode cX0_areFacts 12 = .ok (.iconst 1, 1) := by decide +kernel
theorem dX0_areFacts_13 : decode cX0_areFacts 13 = .ok (.goto 4, 3) := by decide +kernel
theorem dX0_areFacts_16 : decode cX0_areFacts 16 = .ok (.iconst 0, 1) := by decide +kernel
theorem dX0_areFacts_17 : decode cX0_areFacts 17 = .ok (.ireturn, 1) := by decide +kernel
theorem dX0_allFacts_0 : decode cX0_allFacts 0 = .ok (.aload_n 0, 1) := by decide +kernel
theorem dX0_allFacts_1 : decode cX0_allFacts 1 = .ok (.getfield 35, 3) := by decide +kernel
theorem dX0_allFacts_4 : decode cX0_allFacts 4 = .ok (.iconst 1, 1) := by decide +kernel
theorem dX0_allFacts_5 : decode cX0_allFacts 5 = .ok (.isub, 1) := by decide +kernel
theorem dX0_allFacts_6 : decode cX0_allFacts 6 = .ok (.ireturn, 1) := by decide +kernel
theorem dX0_hasKind_0 : decode cX0_hasKind 0 = .ok (.iload_n 1, 1) := by decide +kernel
theorem dX0_hasKind_1 : decode cX0_hasKind 1 = .ok (.ifCond .lt 24, 3) := by decide +kernel
theorem dX0_hasKind_4 : decode cX0_hasKind 4 = .ok (.iload_n 1, 1) := by decide +kernel
theorem dX0_hasKind_5 : decode cX0_hasKind 5 = .ok (.aload_n 0, 1) := by decide +kernel
theorem dX0_hasKind_6 : decode cX0_hasKind 6 = .ok (.getfield 35, 3) := by decide +kernel
theorem dX0_hasKind_9 : decode cX0_hasKind 9 = .ok (.if_icmp .ge 16, 3) := by decide +kernel
theorem dX0_hasKind_12 : decode cX0_hasKind 12 = .ok (.aload_n 0, 1) := by decide +kernel
theorem dX0_hasKind_13 : decode cX0_hasKind 13 = .ok (.getfield 9, 3) := by decide +kernel
theorem dX0_hasKind_16 : decode cX0_hasKind 16 = .ok (.iload_n 1, 1) := by decide +kernel
theorem dX0_hasKind_17 : decode cX0_hasKind 17 = .ok (.baload, 1) := by decide +kernel
theorem dX0_hasKind_18 : decode cX0_hasKind 18 = .ok (.ifCond .eq 7, 3) := by decide +kernel
theorem dX0_hasKind_21 : decode cX0_hasKind 21 = .ok (.iconst 1, 1) := by decide +kernel
theorem dX0_hasKind_22 : decode cX0_hasKind 22 = .ok (.goto 4, 3) := by decide +kernel
theorem dX0_hasKind_25 : decode cX0_hasKind 25 = .ok (.iconst 0, 1) := by decide +kernel
theorem dX0_hasKind_26 : decode cX0_hasKind 26 = .ok (.ireturn, 1) := by decide +kernel
theorem dX0_hasLine_0 : decode cX0_hasLine 0 = .ok (.iload_n 1, 1) := by decide +kernel
theorem dX0_hasLine_1 : decode cX0_hasLine 1 = .ok (.ifCond .lt 15, 3) := by decide +kernel
theorem dX0_hasLine_4 : decode cX0_hasLine 4 = .ok (.iload_n 1, 1) := by decide +kernel
theorem dX0_hasLine_5 : decode cX0_hasLine 5 = .ok (.aload_n 0, 1) := by decide +kernel
theorem dX0_hasLine_6 : decode cX0_hasLine 6 = .ok (.getfield 38, 3) := by decide +kernel
theorem dX0_hasLine_9 : decode cX0_hasLine 9 = .ok (.if_icmp .ge 7, 3) := by decide +kernel
theorem dX0_hasLine_12 : decode cX0_hasLine 12 = .ok (.iconst 1, 1) := by decide +kernel
theorem dX0_hasLine_13 : decode cX0_hasLine 13 = .ok (.goto 4, 3) := by decide +kernel
theorem dX0_hasLine_16 : decode cX0_hasLine 16 = .ok (.iconst 0, 1) := by decide +kernel
theorem dX0_hasLine_17 : decode cX0_hasLine 17 = .ok (.ireturn, 1) := by decide +kernel
set_option maxRecDepth 20000 in
theorem ggX0_areBarred_X5_hasBit : GoodIn wsX0_areBarred wsX5_hasBit := goodIn_r _ [4] (by decide +kernel) (by decide +kernel)
set_option maxRecDepth 20000 in
theorem gX0_areBarred_X5_hasBit_n50 : GoodIn wsX0_areBarred (wsX5_hasBit) := ggX0_areBarred_X5_hasBit
theorem dX0_areBarred_0 : decode cX0_areBarred 0 = .ok (.aload_n 0, 1) := by decide +kernel
theorem dX0_areBarred_1 : decode cX0_areBarred 1 = .ok (.getfield 15, 3) := by decide +kernel
theorem dX0_areBarred_4 : decode cX0_areBarred 4 = .ok (.iload_n 1, 1) := by decide +kernel
theorem dX0_areBarred_5 : decode cX0_areBarred 5 = .ok (.iaload, 1) := by decide +kernel
theorem dX0_areBarred_6 : decode cX0_areBarred 6 = .ok (.iload_n 2, 1) := by decide +kernel
theorem dX0_areBarred_7 : decode cX0_areBarred 7 = .ok (.invokestatic 50, 3) := by decide +kernel
theorem dX0_areBarred_10 : decode cX0_areBarred 10 = .ok (.ireturn, 1) := by decide +kernel
set_option maxRecDepth 20000 in
theorem ggX0_bar_X0_workKinds : GoodIn wsX0_bar wsX0_workKinds := goodIn_r _ [6, 7, 8, 9, 10, 11, 5, 12, 13, 1, 14, 15, 16, 17, 18, 19, 20, 21, 22, 23, 24, 25, 26, 27] (by decide +kernel) (by decide +kernel)
set_option maxRecDepth 20000 in
theorem gX0_bar_X0_workKinds : GoodIn wsX0_bar (wsV RX0 47 RX0 yX0_workKinds wsX0_workKinds) := goodIn_app (goodIn_of _ (by decide +kernel)) ggX0_bar_X0_workKinds
theorem dX0_bar_0 : decode cX0_bar 0 = .ok (.iload_n 3, 1) := by decide +kernel
theorem dX0_bar_1 : decode cX0_bar 1 = .ok (.ifCond .eq 30, 3) := by decide +kernel
theorem dX0_bar_4 : decode cX0_bar 4 = .ok (.aload_n 0, 1) := by decide +kernel
theorem dX0_bar_5 : decode cX0_bar 5 = .ok (.getfield 15, 3) := by decide +kernel
theorem dX0_bar_8 : decode cX0_bar 8 = .ok (.iload_n 1, 1) := by decide +kernel
theorem dX0_bar_9 : decode cX0_bar 9 = .ok (.dup2, 1) := by decide +kernel
theorem dX0_bar_10 : decode cX0_bar 10 = .ok (.iaload, 1) := by decide +kernel
theorem dX0_bar_11 : decode cX0_bar 11 = .ok (.iconst 1, 1) := by decide +kernel
theorem dX0_bar_12 : decode cX0_bar 12 = .ok (.iload_n 2, 1) := by decide +kernel
theorem dX0_bar_13 : decode cX0_bar 13 = .ok (.ishl, 1) := by decide +kernel
theorem dX0_bar_14 : decode cX0_bar 14 = .ok (.ior, 1) := by decide +kernel
theorem dX0_bar_15 : decode cX0_bar 15 = .ok (.iastore, 1) := by decide +kernel
theorem dX0_bar_16 : decode cX0_bar 16 = .ok (.aload_n 0, 1) := by decide +kernel
theorem dX0_bar_17 : decode cX0_bar 17 = .ok (.getfield 15, 3) := by decide +kernel
theorem dX0_bar_20 : decode cX0_bar 20 = .ok (.iload_n 2, 1) := by decide +kernel
theorem dX0_bar_21 : decode cX0_bar 21 = .ok (.dup2, 1) := by decide +kernel
theorem dX0_bar_22 : decode cX0_bar 22 = .ok (.iaload, 1) := by decide +kernel
theorem dX0_bar_23 : decode cX0_bar 23 = .ok (.iconst 1, 1) := by decide +kernel
theorem dX0_bar_24 : decode cX0_bar 24 = .ok (.iload_n 1, 1) := by decide +kernel
theorem dX0_bar_25 : decode cX0_bar 25 = .ok (.ishl, 1) := by decide +kernel
theorem dX0_bar_26 : decode cX0_bar 26 = .ok (.ior, 1) := by decide +kernel
theorem dX0_bar_27 : decode cX0_bar 27 = .ok (.iastore, 1) := by decide +kernel
theorem dX0_bar_28 : decode cX0_bar 28 = .ok (.goto 31, 3) := by decide +kernel
theorem dX0_bar_31 : decode cX0_bar 31 = .ok (.aload_n 0, 1) := by decide +kernel
theorem dX0_bar_32 : decode cX0_bar 32 = .ok (.getfield 15, 3) := by decide +kernel
theorem dX0_bar_35 : decode cX0_bar 35 = .ok (.iload_n 1, 1) := by decide +kernel
theorem dX0_bar_36 : decode cX0_bar 36 = .ok (.dup2, 1) := by decide +kernel
theorem dX0_bar_37 : decode cX0_bar 37 = .ok (.iaload, 1) := by decide +kernel
theorem dX0_bar_38 : decode cX0_bar 38 = .ok (.iconst 1, 1) := by decide +kernel
theorem dX0_bar_39 : decode cX0_bar 39 = .ok (.iload_n 2, 1) := by decide +kernel
theorem dX0_bar_40 : decode cX0_bar 40 = .ok (.ishl, 1) := by decide +kernel
theorem dX0_bar_41 : decode cX0_bar 41 = .ok (.iconst (-1), 1) := by decide +kernel
theorem dX0_bar_42 : decode cX0_bar 42 = .ok (.ixor, 1) := by decide +kernel
theorem dX0_bar_43 : decode cX0_bar 43 = .ok (.iand, 1) := by decide +kernel
theorem dX0_bar_44 : decode cX0_bar 44 = .ok (.iastore, 1) := by decide +kernel
theorem dX0_bar_45 : decode cX0_bar 45 = .ok (.aload_n 0, 1) := by decide +kernel
theorem dX0_bar_46 : decode cX0_bar 46 = .ok (.getfield 15, 3) := by decide +kernel
theorem dX0_bar_49 : decode cX0_bar 49 = .ok (.iload_n 2, 1) := by decide +kernel
theorem dX0_bar_50 : decode cX0_bar 50 = .ok (.dup2, 1) := by decide +kernel
theorem dX0_bar_51 : decode cX0_bar 51 = .ok (.iaload, 1) := by decide +kernel
theorem dX0_bar_52 : decode cX0_bar 52 = .ok (.iconst 1, 1) := by decide +kernel
theorem dX0_bar_53 : decode cX0_bar 53 = .ok (.iload_n 1, 1) := by decide +kernel
theorem dX0_bar_54 : decode cX0_bar 54 = .ok (.ishl, 1) := by decide +kernel
theorem dX0_bar_55 : decode cX0_bar 55 = .ok (.iconst (-1), 1) := by decide +kernel
theorem dX0_bar_56 : decode cX0_bar 56 = .ok (.ixor, 1) := by decide +kernel
theorem dX0_bar_57 : decode cX0_bar 57 = .ok (.iand, 1) := by decide +kernel
theorem dX0_bar_58 : decode cX0_bar 58 = .ok (.iastore, 1) := by decide +kernel
theorem dX0_bar_59 : decode cX0_bar 59 = .ok (.aload_n 0, 1) := by decide +kernel
theorem dX0_bar_60 : decode cX0_bar 60 = .ok (.invokevirtual 47, 3) := by decide +kernel
theorem dX0_bar_63 : decode cX0_bar 63 = .ok (.return_, 1) := by decide +kernel
set_option maxRecDepth 20000 in
theorem ggX0_workKinds_X0_hasBarredPair : GoodIn wsX0_workKinds wsX0_hasBarredPair := goodIn_r _ [7, 8, 9, 10, 11, 12, 13, 14, 15, 16, 17, 18, 19, 20, 21, 22, 23] (by decide +kernel) (by decide +kernel)
set_option maxRecDepth 20000 in
theorem gX0_workKinds_X0_hasBarredPair : GoodIn wsX0_workKinds (wsV RX0 54 RX0 yX0_hasBarredPair wsX0_hasBarredPair) := goodIn_app (goodIn_of _ (by decide +kernel)) ggX0_workKinds_X0_hasBarredPair
theorem dX0_workKinds_0 : decode cX0_workKinds 0 = .ok (.iconst 0, 1) := by decide +kernel
theorem dX0_workKinds_1 : decode cX0_workKinds 1 = .ok (.istore_n 1, 1) := by decide +kernel
theorem dX0_workKinds_2 : decode cX0_workKinds 2 = .ok (.iload_n 1, 1) := by decide +kernel
theorem dX0_workKinds_3 : decode cX0_workKinds 3 = .ok (.aload_n 0, 1) := by decide +kernel
theorem dX0_workKinds_4 : decode cX0_workKinds 4 = .ok (.getfield 35, 3) := by decide +kernel
theorem dX0_workKinds_7 : decode cX0_workKinds 7 = .ok (.if_icmp .ge 28, 3) := by decide +kernel
theorem dX0_workKinds_10 : decode cX0_workKinds 10 = .ok (.aload_n 0, 1) := by decide +kernel
theorem dX0_workKinds_11 : decode cX0_workKinds 11 = .ok (.getfield 9, 3) := by decide +kernel
theorem dX0_workKinds_14 : decode cX0_workKinds 14 = .ok (.iload_n 1, 1) := by decide +kernel
theorem dX0_workKinds_15 : decode cX0_workKinds 15 = .ok (.aload_n 0, 1) := by decide +kernel
theorem dX0_workKinds_16 : decode cX0_workKinds 16 = .ok (.iload_n 1, 1) := by decide +kernel
theorem dX0_workKinds_17 : decode cX0_workKinds 17 = .ok (.invokevirtual 54, 3) := by decide +kernel
theorem dX0_workKinds_20 : decode cX0_workKinds 20 = .ok (.ifCond .ne 7, 3) := by decide +kernel
theorem dX0_workKinds_23 : decode cX0_workKinds 23 = .ok (.iconst 1, 1) := by decide +kernel
theorem dX0_workKinds_24 : decode cX0_workKinds 24 = .ok (.goto 4, 3) := by decide +kernel
theorem dX0_workKinds_27 : decode cX0_workKinds 27 = .ok (.iconst 0, 1) := by decide +kernel
theorem dX0_workKinds_28 : decode cX0_workKinds 28 = .ok (.bastore, 1) := by decide +kernel
theorem dX0_workKinds_29 : decode cX0_workKinds 29 = .ok (.iinc 1 1, 3) := by decide +kernel
theorem dX0_workKinds_32 : decode cX0_workKinds 32 = .ok (.goto (-30), 3) := by decide +kernel
theorem dX0_workKinds_35 : decode cX0_workKinds 35 = .ok (.return_, 1) := by decide +kernel
set_option maxRecDepth 20000 in
theorem ggX0_hasBarredPair_X5_hasBit : GoodIn wsX0_hasBarredPair wsX5_hasBit := goodIn_r _ [5] (by decide +kernel) (by decide +kernel)
set_option maxRecDepth 20000 in
theorem gX0_hasBarredPair_X5_hasBit_n50 : GoodIn wsX0_hasBarredPair (wsX5_hasBit) := ggX0_hasBarredPair_X5_hasBit
theorem dX0_hasBarredPair_0 : decode cX0_hasBarredPair 0 = .ok (.iconst 0, 1) := by decide +kernel
theorem dX0_hasBarredPair_1 : decode cX0_hasBarredPair 1 = .ok (.istore_n 2, 1) := by decide +kernel
theorem dX0_hasBarredPair_2 : decode cX0_hasBarredPair 2 = .ok (.iload_n 2, 1) := by decide +kernel
theorem dX0_hasBarredPair_3 : decode cX0_hasBarredPair 3 = .ok (.aload_n 0, 1) := by decide +kernel
theorem dX0_hasBarredPair_4 : decode cX0_hasBarredPair 4 = .ok (.getfield 31, 3) := by decide +kernel
theorem dX0_hasBarredPair_7 : decode cX0_hasBarredPair 7 = .ok (.if_icmp .ge 30, 3) := by decide +kernel
theorem dX0_hasBarredPair_10 : decode cX0_hasBarredPair 10 = .ok (.iload_n 1, 1) := by decide +kernel
theorem dX0_hasBarredPair_11 : decode cX0_hasBarredPair 11 = .ok (.iload_n 2, 1) := by decide +kernel
theorem dX0_hasBarredPair_12 : decode cX0_hasBarredPair 12 = .ok (.invokestatic 50, 3) := by decide +kernel
theorem dX0_hasBarredPair_15 : decode cX0_hasBarredPair 15 = .ok (.ifCond .eq 16, 3) := by decide +kernel
theorem dX0_hasBarredPair_18 : decode cX0_hasBarredPair 18 = .ok (.aload_n 0, 1) := by decide +kernel
theorem dX0_hasBarredPair_19 : decode cX0_hasBarredPair 19 = .ok (.getfield 15, 3) := by decide +kernel
theorem dX0_hasBarredPair_22 : decode cX0_hasBarredPair 22 = .ok (.iload_n 2, 1) := by decide +kernel
theorem dX0_hasBarredPair_23 : decode cX0_hasBarredPair 23 = .ok (.iaload, 1) := by decide +kernel
theorem dX0_hasBarredPair_24 : decode cX0_hasBarredPair 24 = .ok (.iload_n 1, 1) := by decide +kernel
theorem dX0_hasBarredPair_25 : decode cX0_hasBarredPair 25 = .ok (.iand, 1) := by decide +kernel
theorem dX0_hasBarredPair_26 : decode cX0_hasBarredPair 26 = .ok (.ifCond .eq 5, 3) := by decide +kernel
theorem dX0_hasBarredPair_29 : decode cX0_hasBarredPair 29 = .ok (.iconst 1, 1) := by decide +kernel
theorem dX0_hasBarredPair_30 : decode cX0_hasBarredPair 30 = .ok (.ireturn, 1) := by decide +kernel
theorem dX0_hasBarredPair_31 : decode cX0_hasBarredPair 31 = .ok (.iinc 2 1, 3) := by decide +kernel
theorem dX0_hasBarredPair_34 : decode cX0_hasBarredPair 34 = .ok (.goto (-32), 3) := by decide +kernel
theorem dX0_hasBarredPair_37 : decode cX0_hasBarredPair 37 = .ok (.iconst 0, 1) := by decide +kernel
theorem dX0_hasBarredPair_38 : decode cX0_hasBarredPair 38 = .ok (.ireturn, 1) := by decide +kernel
theorem dX0_mayBe_0 : decode cX0_mayBe 0 = .ok (.aload_n 0, 1) := by decide +kernel
theorem dX0_mayBe_1 : decode cX0_mayBe 1 = .ok (.getfield 9, 3) := by decide +kernel
theorem dX0_mayBe_4 : decode cX0_mayBe 4 = .ok (.iload_n 1, 1) := by decide +kernel
theorem dX0_mayBe_5 : decode cX0_mayBe 5 = .ok (.baload, 1) := by decide +kernel
theorem dX0_mayBe_6 : decode cX0_mayBe 6 = .ok (.ifCond .eq 20, 3) := by decide +kernel
theorem dX0_mayBe_9 : decode cX0_mayBe 9 = .ok (.iload_n 1, 1) := by decide +kernel
theorem dX0_mayBe_10 : decode cX0_mayBe 10 = .ok (.iload_n 2, 1) := by decide +kernel
theorem dX0_mayBe_11 : decode cX0_mayBe 11 = .ok (.iand, 1) := by decide +kernel
theorem dX0_mayBe_12 : decode cX0_mayBe 12 = .ok (.iload_n 2, 1) := by decide +kernel
theorem dX0_mayBe_13 : decode cX0_mayBe 13 = .ok (.if_icmp .ne 13, 3) := by decide +kernel
theorem dX0_mayBe_16 : decode cX0_mayBe 16 = .ok (.iload_n 1, 1) := by decide +kernel
theorem dX0_mayBe_17 : decode cX0_mayBe 17 = .ok (.iload_n 3, 1) := by decide +kernel
theorem dX0_mayBe_18 : decode cX0_mayBe 18 = .ok (.iand, 1) := by decide +kernel
theorem dX0_mayBe_19 : decode cX0_mayBe 19 = .ok (.ifCond .ne 7, 3) := by decide +kernel
theorem dX0_mayBe_22 : decode cX0_mayBe 22 = .ok (.iconst 1, 1) := by decide +kernel
theorem dX0_mayBe_23 : decode cX0_mayBe 23 = .ok (.goto 4, 3) := by decide +kernel
theorem dX0_mayBe_26 : decode cX0_mayBe 26 = .ok (.iconst 0, 1) := by decide +kernel
theorem dX0_mayBe_27 : decode cX0_mayBe 27 = .ok (.ireturn, 1) := by decide +kernel
set_option maxRecDepth 20000 in
theorem ggX0_countMayBe_X0_mayBe : GoodIn wsX0_countMayBe wsX0_mayBe := goodIn_r _ [6, 7, 8, 9, 10, 11, 12, 13, 14, 15, 16, 17, 18] (by decide +kernel) (by decide +kernel)
set_option maxRecDepth 20000 in
theorem gX0_countMayBe_X0_mayBe : GoodIn wsX0_countMayBe (wsV RX0 58 RX0 yX0_mayBe wsX0_mayBe) := goodIn_app (goodIn_of _ (by decide +kernel)) ggX0_countMayBe_X0_mayBe
theorem dX0_countMayBe_0 : decode cX0_countMayBe 0 = .ok (.iconst 0, 1) := by decide +kernel
theorem dX0_countMayBe_1 : decode cX0_countMayBe 1 = .ok (.istore_n 3, 1) := by decide +kernel
theorem dX0_countMayBe_2 : decode cX0_countMayBe 2 = .ok (.iconst 0, 1) := by decide +kernel
theorem dX0_countMayBe_3 : decode cX0_countMayBe 3 = .ok (.istore 4, 2) := by decide +kernel
theorem dX0_countMayBe_5 : decode cX0_countMayBe 5 = .ok (.iload 4, 2) := by decide +kernel
theorem dX0_countMayBe_7 : decode cX0_countMayBe 7 = .ok (.aload_n 0, 1) := by decide +kernel
theorem dX0_countMayBe_8 : decode cX0_countMayBe 8 = .ok (.getfield 35, 3) := by decide +kernel
theorem dX0_countMayBe_11 : decode cX0_countMayBe 11 = .ok (.if_icmp .ge 23, 3) := by decide +kernel
theorem dX0_countMayBe_14 : decode cX0_countMayBe 14 = .ok (.aload_n 0, 1) := by decide +kernel
theorem dX0_countMayBe_15 : decode cX0_countMayBe 15 = .ok (.iload 4, 2) := by decide +kernel
theorem dX0_countMayBe_17 : decode cX0_countMayBe 17 = .ok (.iload_n 1, 1) := by decide +kernel
theorem dX0_countMayBe_18 : decode cX0_countMayBe 18 = .ok (.iload_n 2, 1) := by decide +kernel
theorem dX0_countMayBe_19 : decode cX0_countMayBe 19 = .ok (.invokevirtual 58, 3) := by decide +kernel
theorem dX0_countMayBe_22 : decode cX0_countMayBe 22 = .ok (.ifCond .eq 6, 3) := by decide +kernel
theorem dX0_countMayBe_25 : decode cX0_countMayBe 25 = .ok (.iinc 3 1, 3) := by decide +kernel
theorem dX0_countMayBe_28 : decode cX0_countMayBe 28 = .ok (.iinc 4 1, 3) := by decide +kernel
theorem dX0_countMayBe_31 : decode cX0_countMayBe 31 = .ok (.goto (-26), 3) := by decide +kernel
theorem dX0_countMayBe_34 : decode cX0_countMayBe 34 = .ok (.iload_n 3, 1) := by decide +kernel
theorem dX0_countMayBe_35 : decode cX0_countMayBe 35 = .ok (.ireturn, 1) := by decide +kernel
theorem dX0_addLine_0 : decode cX0_addLine 0 = .ok (.aload_n 0, 1) := by decide +kernel
theorem dX0_addLine_1 : decode cX0_addLine 1 = .ok (.getfield 38, 3) := by decide +kernel
theorem dX0_addLine_4 : decode cX0_addLine 4 = .ok (.istore 4, 2) := by decide +kernel
theorem dX0_addLine_6 : decode cX0_addLine 6 = .ok (.aload_n 0, 1) := by decide +kernel
theorem dX0_addLine_7 : decode cX0_addLine 7 = .ok (.getfield 19, 3) := by decide +kernel
theorem dX0_addLine_10 : decode cX0_addLine 10 = .ok (.iload 4, 2) := by decide +kernel
theorem dX0_addLine_12 : decode cX0_addLine 12 = .ok (.iload_n 1, 1) := by decide +kernel
theorem dX0_addLine_13 : decode cX0_addLine 13 = .ok (.iastore, 1) := by decide +kernel
theorem dX0_addLine_14 : decode cX0_addLine 14 = .ok (.aload_n 0, 1) := by decide +kernel
theorem dX0_addLine_15 : decode cX0_addLine 15 = .ok (.getfield 22, 3) := by decide +kernel
theorem dX0_addLine_18 : decode cX0_addLine 18 = .ok (.iload 4, 2) := by decide +kernel
theorem dX0_addLine_20 : decode cX0_addLine 20 = .ok (.iload_n 2, 1) := by decide +kernel
theorem dX0_addLine_21 : decode cX0_addLine 21 = .ok (.iastore, 1) := by decide +kernel
theorem dX0_addLine_22 : decode cX0_addLine 22 = .ok (.aload_n 0, 1) := by decide +kernel
theorem dX0_addLine_23 : decode cX0_addLine 23 = .ok (.getfield 25, 3) := by decide +kernel
theorem dX0_addLine_26 : decode cX0_addLine 26 = .ok (.iload 4, 2) := by decide +kernel
theorem dX0_addLine_28 : decode cX0_addLine 28 = .ok (.iload_n 3, 1) := by decide +kernel
theorem dX0_addLine_29 : decode cX0_addLine 29 = .ok (.iastore, 1) := by decide +kernel
theorem dX0_addLine_30 : decode cX0_addLine 30 = .ok (.aload_n 0, 1) := by decide +kernel
theorem dX0_addLine_31 : decode cX0_addLine 31 = .ok (.getfield 28, 3) := by decide +kernel
theorem dX0_addLine_34 : decode cX0_addLine 34 = .ok (.iload 4, 2) := by decide +kernel
theorem dX0_addLine_36 : decode cX0_addLine 36 = .ok (.iconst 0, 1) := by decide +kernel
theorem dX0_addLine_37 : decode cX0_addLine 37 = .ok (.iastore, 1) := by decide +kernel
theorem dX0_addLine_38 : decode cX0_addLine 38 = .ok (.aload_n 0, 1) := by decide +kernel
theorem dX0_addLine_39 : decode cX0_addLine 39 = .ok (.dup, 1) := by decide +kernel
theorem dX0_addLine_40 : decode cX0_addLine 40 = .ok (.getfield 38, 3) := by decide +kernel
theorem dX0_addLine_43 : decode cX0_addLine 43 = .ok (.iconst 1, 1) := by decide +kernel
theorem dX0_addLine_44 : decode cX0_addLine 44 = .ok (.iadd, 1) := by decide +kernel
theorem dX0_addLine_45 : decode cX0_addLine 45 = .ok (.putfield 38, 3) := by decide +kernel
theorem dX0_addLine_48 : decode cX0_addLine 48 = .ok (.iload 4, 2) := by decide +kernel
theorem dX0_addLine_50 : decode cX0_addLine 50 = .ok (.ireturn, 1) := by decide +kernel
set_option maxRecDepth 20000 in
theorem ggX0_excepts_X5_hasBit : GoodIn wsX0_excepts wsX5_hasBit := goodIn_r _ [4] (by decide +kernel) (by decide +kernel)
set_option maxRecDepth 20000 in
theorem gX0_excepts_X5_hasBit_n50 : GoodIn wsX0_excepts (wsX5_hasBit) := ggX0_excepts_X5_hasBit
theorem dX0_excepts_0 : decode cX0_excepts 0 = .ok (.aload_n 0, 1) := by decide +kernel
theorem dX0_excepts_1 : decode cX0_excepts 1 = .ok (.getfield 28, 3) := by decide +kernel
theorem dX0_excepts_4 : decode cX0_excepts 4 = .ok (.iload_n 2, 1) := by decide +kernel
theorem dX0_excepts_5 : decode cX0_excepts 5 = .ok (.iaload, 1) := by decide +kernel
theorem dX0_excepts_6 : decode cX0_excepts 6 = .ok (.iload_n 1, 1) := by decide +kernel
theorem dX0_excepts_7 : decode cX0_excepts 7 = .ok (.invokestatic 50, 3) := by decide +kernel
theorem dX0_excepts_10 : decode cX0_excepts 10 = .ok (.ireturn, 1) := by decide +kernel
theorem dX0_addException_0 : decode cX0_addException 0 = .ok (.aload_n 0, 1) := by decide +kernel
theorem dX0_addException_1 : decode cX0_addException 1 = .ok (.getfield 28, 3) := by decide +kernel
theorem dX0_addException_4 : decode cX0_addException 4 = .ok (.iload_n 2, 1) := by decide +kernel
theorem dX0_addException_5 : decode cX0_addException 5 = .ok (.dup2, 1) := by decide +kernel
theorem dX0_addException_6 : decode cX0_addException 6 = .ok (.iaload, 1) := by decide +kernel
theorem dX0_addException_7 : decode cX0_addException 7 = .ok (.iconst 1, 1) := by decide +kernel
theorem dX0_addException_8 : decode cX0_addException 8 = .ok (.iload_n 1, 1) := by decide +kernel
theorem dX0_addException_9 : decode cX0_addException 9 = .ok (.ishl, 1) := by decide +kernel
theorem dX0_addException_10 : decode cX0_addException 10 = .ok (.ior, 1) := by decide +kernel
theorem dX0_addException_11 : decode cX0_addException 11 = .ok (.iastore, 1) := by decide +kernel
theorem dX0_addException_12 : decode cX0_addException 12 = .ok (.aload_n 0, 1) := by decide +kernel
theorem dX0_addException_13 : decode cX0_addException 13 = .ok (.dup, 1) := by decide +kernel
theorem dX0_addException_14 : decode cX0_addException 14 = .ok (.getfield 44, 3) := by decide +kernel
theorem dX0_addException_17 : decode cX0_addException 17 = .ok (.iconst 1, 1) := by decide +kernel
theorem dX0_addException_18 : decode cX0_addException 18 = .ok (.iload_n 1, 1) := by decide +kernel
theorem dX0_addException_19 : decode cX0_addException 19 = .ok (.ishl, 1) := by decide +kernel
theorem dX0_addException_20 : decode cX0_addException 20 = .ok (.ior, 1) := by decide +kernel
theorem dX0_addException_21 : decode cX0_addException 21 = .ok (.putfield 44, 3) := by decide +kernel
theorem dX0_addException_24 : decode cX0_addException 24 = .ok (.return_, 1) := by decide +kernel
set_option maxRecDepth 20000 in
theorem ggX0_isRepealed_X5_hasBit : GoodIn wsX0_isRepealed wsX5_hasBit := goodIn_r _ [4] (by decide +kernel) (by decide +kernel)
set_option maxRecDepth 20000 in
theorem gX0_isRepealed_X5_hasBit_n50 : GoodIn wsX0_isRepealed (wsX5_hasBit) := ggX0_isRepealed_X5_hasBit
theorem dX0_isRepealed_0 : decode cX0_isRepealed 0 = .ok (.aload_n 0, 1) := by decide +kernel
theorem dX0_isRepealed_1 : decode cX0_isRepealed 1 = .ok (.getfield 41, 3) := by decide +kernel
theorem dX0_isRepealed_4 : decode cX0_isRepealed 4 = .ok (.iload_n 1, 1) := by decide +kernel
theorem dX0_isRepealed_5 : decode cX0_isRepealed 5 = .ok (.invokestatic 50, 3) := by decide +kernel
theorem dX0_isRepealed_8 : decode cX0_isRepealed 8 = .ok (.ireturn, 1) := by decide +kernel
theorem dX0_repealedIfMended_0 : decode cX0_repealedIfMended 0 = .ok (.aload_n 0, 1) := by decide +kernel
theorem dX0_repealedIfMended_1 : decode cX0_repealedIfMended 1 = .ok (.getfield 41, 3) := by decide +kernel
theorem dX0_repealedIfMended_4 : decode cX0_repealedIfMended 4 = .ok (.iconst 1, 1) := by decide +kernel
theorem dX0_repealedIfMended_5 : decode cX0_repealedIfMended 5 = .ok (.iload_n 1, 1) := by decide +kernel
theorem dX0_repealedIfMended_6 : decode cX0_repealedIfMended 6 = .ok (.ishl, 1) := by decide +kernel
theorem dX0_repealedIfMended_7 : decode cX0_repealedIfMended 7 = .ok (.ixor, 1) := by decide +kernel
theorem dX0_repealedIfMended_8 : decode cX0_repealedIfMended 8 = .ok (.ireturn, 1) := by decide +kernel
set_option maxRecDepth 20000 in
theorem ggX0_holding_X5_hasBit : GoodIn wsX0_holding wsX5_hasBit := goodIn_r _ [7] (by decide +kernel) (by decide +kernel)
set_option maxRecDepth 20000 in
theorem gX0_holding_X5_hasBit_n50 : GoodIn wsX0_holding (wsX5_hasBit) := ggX0_holding_X5_hasBit
theorem dX0_holding_0 : decode cX0_holding 0 = .ok (.iconst 0, 1) := by decide +kernel
theorem dX0_holding_1 : decode cX0_holding 1 = .ok (.istore_n 3, 1) := by decide +kernel
theorem dX0_holding_2 : decode cX0_holding 2 = .ok (.aload_n 0, 1) := by decide +kernel
theorem dX0_holding_3 : decode cX0_holding 3 = .ok (.getfield 38, 3) := by decide +kernel
theorem dX0_holding_6 : decode cX0_holding 6 = .ok (.iconst 1, 1) := by decide +kernel
theorem dX0_holding_7 : decode cX0_holding 7 = .ok (.isub, 1) := by decide +kernel
theorem dX0_holding_8 : decode cX0_holding 8 = .ok (.istore 4, 2) := by decide +kernel
theorem dX0_holding_10 : decode cX0_holding 10 = .ok (.iload 4, 2) := by decide +kernel
theorem dX0_holding_12 : decode cX0_holding 12 = .ok (.ifCond .lt 80, 3) := by decide +kernel
theorem dX0_holding_15 : decode cX0_holding 15 = .ok (.iload_n 1, 1) := by decide +kernel
theorem dX0_holding_16 : decode cX0_holding 16 = .ok (.aload_n 0, 1) := by decide +kernel
theorem dX0_holding_17 : decode cX0_holding 17 = .ok (.getfield 19, 3) := by decide +kernel
theorem dX0_holding_20 : decode cX0_holding 20 = .ok (.iload 4, 2) := by decide +kernel
theorem dX0_holding_22 : decode cX0_holding 22 = .ok (.iaload, 1) := by decide +kernel
theorem dX0_holding_23 : decode cX0_holding 23 = .ok (.iand, 1) := by decide +kernel
theorem dX0_holding_24 : decode cX0_holding 24 = .ok (.aload_n 0, 1) := by decide +kernel
theorem dX0_holding_25 : decode cX0_holding 25 = .ok (.getfield 19, 3) := by decide +kernel
theorem dX0_holding_28 : decode cX0_holding 28 = .ok (.iload 4, 2) := by decide +kernel
theorem dX0_holding_30 : decode cX0_holding 30 = .ok (.iaload, 1) := by decide +kernel
theorem dX0_holding_31 : decode cX0_holding 31 = .ok (.if_icmp .ne 19, 3) := by decide +kernel
theorem dX0_holding_34 : decode cX0_holding 34 = .ok (.iload_n 1, 1) := by decide +kernel
theorem dX0_holding_35 : decode cX0_holding 35 = .ok (.aload_n 0, 1) := by decide +kernel
theorem dX0_holding_36 : decode cX0_holding 36 = .ok (.getfield 22, 3) := by decide +kernel
theorem dX0_holding_39 : decode cX0_holding 39 = .ok (.iload 4, 2) := by decide +kernel
theorem dX0_holding_41 : decode cX0_holding 41 = .ok (.iaload, 1) := by decide +kernel
theorem dX0_holding_42 : decode cX0_holding 42 = .ok (.iand, 1) := by decide +kernel
theorem dX0_holding_43 : decode cX0_holding 43 = .ok (.ifCond .ne 7, 3) := by decide +kernel
theorem dX0_holding_46 : decode cX0_holding 46 = .ok (.iconst 1, 1) := by decide +kernel
theorem dX0_holding_47 : decode cX0_holding 47 = .ok (.goto 4, 3) := by decide +kernel
theorem dX0_holding_50 : decode cX0_holding 50 = .ok (.iconst 0, 1) := by decide +kernel
theorem dX0_holding_51 : decode cX0_holding 51 = .ok (.istore 5, 2) := by decide +kernel
theorem dX0_holding_53 : decode cX0_holding 53 = .ok (.iload 5, 2) := by decide +kernel
theorem dX0_holding_55 : decode cX0_holding 55 = .ok (.ifCond .eq 31, 3) := by decide +kernel
theorem dX0_holding_58 : decode cX0_holding 58 = .ok (.iload_n 2, 1) := by decide +kernel
theorem dX0_holding_59 : decode cX0_holding 59 = .ok (.iload 4, 2) := by decide +kernel
theorem dX0_holding_61 : decode cX0_holding 61 = .ok (.invokestatic 50, 3) := by decide +kernel
theorem dX0_holding_64 : decode cX0_holding 64 = .ok (.ifCond .ne 22, 3) := by decide +kernel
theorem dX0_holding_67 : decode cX0_holding 67 = .ok (.aload_n 0, 1) := by decide +kernel
theorem dX0_holding_68 : decode cX0_holding 68 = .ok (.getfield 28, 3) := by decide +kernel
theorem dX0_holding_71 : decode cX0_holding 71 = .ok (.iload 4, 2) := by decide +kernel
theorem dX0_holding_73 : decode cX0_holding 73 = .ok (.iaload, 1) := by decide +kernel
theorem dX0_holding_74 : decode cX0_holding 74 = .ok (.iload_n 3, 1) := by decide +kernel
theorem dX0_holding_75 : decode cX0_holding 75 = .ok (.iand, 1) := by decide +kernel
theorem dX0_holding_76 : decode cX0_holding 76 = .ok (.ifCond .ne 10, 3) := by decide +kernel
theorem dX0_holding_79 : decode cX0_holding 79 = .ok (.iload_n 3, 1) := by decide +kernel
theorem dX0_holding_80 : decode cX0_holding 80 = .ok (.iconst 1, 1) := by decide +kernel
theorem dX0_holding_81 : decode cX0_holding 81 = .ok (.iload 4, 2) := by decide +kernel
theorem dX0_holding_83 : decode cX0_holding 83 = .ok (.ishl, 1) := by decide +kernel
theorem dX0_holding_84 : decode cX0_holding 84 = .ok (.ior, 1) := by decide +kernel
theorem dX0_holding_85 : decode cX0_holding 85 = .ok (.istore_n 3, 1) := by decide +kernel
theorem dX0_holding_86 : decode cX0_holding 86 = .ok (.iinc 4 (-1), 3) := by decide +kernel
theorem dX0_holding_89 : decode cX0_holding 89 = .ok (.goto (-79), 3) := by decide +kernel
theorem dX0_holding_92 : decode cX0_holding 92 = .ok (.iload_n 3, 1) := by decide +kernel
theorem dX0_holding_93 : decode cX0_holding 93 = .ok (.ireturn, 1) := by decide +kernel
set_option maxRecDepth 20000 in
theorem ggX0_lawLine_X0_holding : GoodIn wsX0_lawLine wsX0_holding := goodIn_r _ [7, 2, 8, 9, 10, 11, 12, 13, 14, 15, 16, 17, 18, 19, 20, 21, 22, 23, 24] (by decide +kernel) (by decide +kernel)
set_option maxRecDepth 20000 in
theorem gX0_lawLine_X0_holding : GoodIn wsX0_lawLine (wsV RX0 62 RX0 yX0_holding wsX0_holding) := goodIn_app (goodIn_of _ (by decide +kernel)) ggX0_lawLine_X0_holding
set_option maxRecDepth 20000 in
theorem ggX0_lawLine_X5_hasBit : GoodIn wsX0_lawLine wsX5_hasBit := goodIn_r _ [13] (by decide +kernel) (by decide +kernel)
set_option maxRecDepth 20000 in
theorem gX0_lawLine_X5_hasBit_n50 : GoodIn wsX0_lawLine (wsX5_hasBit) := ggX0_lawLine_X5_hasBit
theorem dX0_lawLine_0 : decode cX0_lawLine 0 = .ok (.aload_n 0, 1) := by decide +kernel
theorem dX0_lawLine_1 : decode cX0_lawLine 1 = .ok (.iload_n 1, 1) := by decide +kernel
theorem dX0_lawLine_2 : decode cX0_lawLine 2 = .ok (.iload_n 2, 1) := by decide +kernel
theorem dX0_lawLine_3 : decode cX0_lawLine 3 = .ok (.invokevirtual 62, 3) := by decide +kernel
theorem dX0_lawLine_6 : decode cX0_lawLine 6 = .ok (.aload_n 0, 1) := by decide +kernel
theorem dX0_lawLine_7 : decode cX0_lawLine 7 = .ok (.getfield 44, 3) := by decide +kernel
theorem dX0_lawLine_10 : decode cX0_lawLine 10 = .ok (.iconst (-1), 1) := by decide +kernel
theorem dX0_lawLine_11 : decode cX0_lawLine 11 = .ok (.ixor, 1) := by decide +kernel
theorem dX0_lawLine_12 : decode cX0_lawLine 12 = .ok (.iand, 1) := by decide +kernel
theorem dX0_lawLine_13 : decode cX0_lawLine 13 = .ok (.istore_n 3, 1) := by decide +kernel
theorem dX0_lawLine_14 : decode cX0_lawLine 14 = .ok (.iconst 0, 1) := by decide +kernel
theorem dX0_lawLine_15 : decode cX0_lawLine 15 = .ok (.istore 4, 2) := by decide +kernel
theorem dX0_lawLine_17 : decode cX0_lawLine 17 = .ok (.iload 4, 2) := by decide +kernel
theorem dX0_lawLine_19 : decode cX0_lawLine 19 = .ok (.aload_n 0, 1) := by decide +kernel
theorem dX0_lawLine_20 : decode cX0_lawLine 20 = .ok (.getfield 38, 3) := by decide +kernel
theorem dX0_lawLine_23 : decode cX0_lawLine 23 = .ok (.if_icmp .ge 21, 3) := by decide +kernel
theorem dX0_lawLine_26 : decode cX0_lawLine 26 = .ok (.iload_n 3, 1) := by decide +kernel
theorem dX0_lawLine_27 : decode cX0_lawLine 27 = .ok (.iload 4, 2) := by decide +kernel
theorem dX0_lawLine_29 : decode cX0_lawLine 29 = .ok (.invokestatic 50, 3) := by decide +kernel
theorem dX0_lawLine_32 : decode cX0_lawLine 32 = .ok (.ifCond .eq 6, 3) := by decide +kernel
theorem dX0_lawLine_35 : decode cX0_lawLine 35 = .ok (.iload 4, 2) := by decide +kernel
theorem dX0_lawLine_37 : decode cX0_lawLine 37 = .ok (.ireturn, 1) := by decide +kernel
theorem dX0_lawLine_38 : decode cX0_lawLine 38 = .ok (.iinc 4 1, 3) := by decide +kernel
theorem dX0_lawLine_41 : decode cX0_lawLine 41 = .ok (.goto (-24), 3) := by decide +kernel
theorem dX0_lawLine_44 : decode cX0_lawLine 44 = .ok (.bipush (-6), 2) := by decide +kernel
theorem dX0_lawLine_46 : decode cX0_lawLine 46 = .ok (.ireturn, 1) := by decide +kernel
set_option maxRecDepth 20000 in
theorem ggX0_namedBy_X5_hasBit : GoodIn wsX0_namedBy wsX5_hasBit := goodIn_r _ [8] (by decide +kernel) (by decide +kernel)
set_option maxRecDepth 20000 in
theorem gX0_namedBy_X5_hasBit_n50 : GoodIn wsX0_namedBy (wsX5_hasBit) := ggX0_namedBy_X5_hasBit
theorem dX0_namedBy_0 : decode cX0_namedBy 0 = .ok (.iconst 0, 1) := by decide +kernel
theorem dX0_namedBy_1 : decode cX0_namedBy 1 = .ok (.istore_n 2, 1) := by decide +kernel
theorem dX0_namedBy_2 : decode cX0_namedBy 2 = .ok (.iconst 1, 1) := by decide +kernel
theorem dX0_namedBy_3 : decode cX0_namedBy 3 = .ok (.iload_n 1, 1) := by decide +kernel
theorem dX0_namedBy_4 : decode cX0_namedBy 4 = .ok (.ishl, 1) := by decide +kernel
theorem dX0_namedBy_5 : decode cX0_namedBy 5 = .ok (.istore_n 3, 1) := by decide +kernel
theorem dX0_namedBy_6 : decode cX0_namedBy 6 = .ok (.iload_n 1, 1) := by decide +kernel
theorem dX0_namedBy_7 : decode cX0_namedBy 7 = .ok (.istore 4, 2) := by decide +kernel
theorem dX0_namedBy_9 : decode cX0_namedBy 9 = .ok (.iload 4, 2) := by decide +kernel
theorem dX0_namedBy_11 : decode cX0_namedBy 11 = .ok (.aload_n 0, 1) := by decide +kernel
theorem dX0_namedBy_12 : decode cX0_namedBy 12 = .ok (.getfield 38, 3) := by decide +kernel
theorem dX0_namedBy_15 : decode cX0_namedBy 15 = .ok (.if_icmp .ge 53, 3) := by decide +kernel
theorem dX0_namedBy_18 : decode cX0_namedBy 18 = .ok (.iload_n 3, 1) := by decide +kernel
theorem dX0_namedBy_19 : decode cX0_namedBy 19 = .ok (.iload 4, 2) := by decide +kernel
theorem dX0_namedBy_21 : decode cX0_namedBy 21 = .ok (.invokestatic 50, 3) := by decide +kernel
theorem dX0_namedBy_24 : decode cX0_namedBy 24 = .ok (.ifCond .eq 38, 3) := by decide +kernel
theorem dX0_namedBy_27 : decode cX0_namedBy 27 = .ok (.iload_n 2, 1) := by decide +kernel
theorem dX0_namedBy_28 : decode cX0_namedBy 28 = .ok (.aload_n 0, 1) := by decide +kernel
theorem dX0_namedBy_29 : decode cX0_namedBy 29 = .ok (.getfield 19, 3) := by decide +kernel
theorem dX0_namedBy_32 : decode cX0_namedBy 32 = .ok (.iload 4, 2) := by decide +kernel
theorem dX0_namedBy_34 : decode cX0_namedBy 34 = .ok (.iaload, 1) := by decide +kernel
theorem dX0_namedBy_35 : decode cX0_namedBy 35 = .ok (.aload_n 0, 1) := by decide +kernel
theorem dX0_namedBy_36 : decode cX0_namedBy 36 = .ok (.getfield 22, 3) := by decide +kernel
theorem dX0_namedBy_39 : decode cX0_namedBy 39 = .ok (.iload 4, 2) := by decide +kernel
theorem dX0_namedBy_41 : decode cX0_namedBy 41 = .ok (.iaload, 1) := by decide +kernel
theorem dX0_namedBy_42 : decode cX0_namedBy 42 = .ok (.ior, 1) := by decide +kernel
theorem dX0_namedBy_43 : decode cX0_namedBy 43 = .ok (.ior, 1) := by decide +kernel
theorem dX0_namedBy_44 : decode cX0_namedBy 44 = .ok (.istore_n 2, 1) := by decide +kernel
theorem dX0_namedBy_45 : decode cX0_namedBy 45 = .ok (.iload_n 3, 1) := by decide +kernel
theorem dX0_namedBy_46 : decode cX0_namedBy 46 = .ok (.aload_n 0, 1) := by decide +kernel
theorem dX0_namedBy_47 : decode cX0_namedBy 47 = .ok (.getfield 28, 3) := by decide +kernel
theorem dX0_namedBy_50 : decode cX0_namedBy 50 = .ok (.iload 4, 2) := by decide +kernel
theorem dX0_namedBy_52 : decode cX0_namedBy 52 = .ok (.iaload, 1) := by decide +kernel
theorem dX0_namedBy_53 : decode cX0_namedBy 53 = .ok (.aload_n 0, 1) := by decide +kernel
theorem dX0_namedBy_54 : decode cX0_namedBy 54 = .ok (.getfield 41, 3) := by decide +kernel
theorem dX0_namedBy_57 : decode cX0_namedBy 57 = .ok (.iconst (-1), 1) := by decide +kernel
theorem dX0_namedBy_58 : decode cX0_namedBy 58 = .ok (.ixor, 1) := by decide +kernel
theorem dX0_namedBy_59 : decode cX0_namedBy 59 = .ok (.iand, 1) := by decide +kernel
theorem dX0_namedBy_60 : decode cX0_namedBy 60 = .ok (.ior, 1) := by decide +kernel
theorem dX0_namedBy_61 : decode cX0_namedBy 61 = .ok (.istore_n 3, 1) := by decide +kernel
theorem dX0_namedBy_62 : decode cX0_namedBy 62 = .ok (.iinc 4 1, 3) := by decide +kernel
theorem dX0_namedBy_65 : decode cX0_namedBy 65 = .ok (.goto (-56), 3) := by decide +kernel
theorem dX0_namedBy_68 : decode cX0_namedBy 68 = .ok (.iload_n 2, 1) := by decide +kernel
theorem dX0_namedBy_69 : decode cX0_namedBy 69 = .ok (.ireturn, 1) := by decide +kernel
theorem dX1_init_0 : decode cX1_init 0 = .ok (.aload_n 0, 1) := by decide +kernel
theorem dX1_init_1 : decode cX1_init 1 = .ok (.invokespecial 3, 3) := by decide +kernel
theorem dX1_init_4 : decode cX1_init 4 = .ok (.aload_n 0, 1) := by decide +kernel
theorem dX1_init_5 : decode cX1_init 5 = .ok (.bipush 12, 2) := by decide +kernel
theorem dX1_init_7 : decode cX1_init 7 = .ok (.newarray .int, 2) := by decide +kernel
theorem dX1_init_9 : decode cX1_init 9 = .ok (.putfield 9, 3) := by decide +kernel
theorem dX1_init_12 : decode cX1_init 12 = .ok (.aload_n 0, 1) := by decide +kernel
theorem dX1_init_13 : decode cX1_init 13 = .ok (.bipush 12, 2) := by decide +kernel
theorem dX1_init_15 : decode cX1_init 15 = .ok (.newarray .int, 2) := by decide +kernel
theorem dX1_init_17 : decode cX1_init 17 = .ok (.putfield 15, 3) := by decide +kernel
theorem dX1_init_20 : decode cX1_init 20 = .ok (.aload_n 0, 1) := by decide +kernel
theorem dX1_init_21 : decode cX1_init 21 = .ok (.bipush 12, 2) := by decide +kernel
theorem dX1_init_23 : decode cX1_init 23 = .ok (.newarray .int, 2) := by decide +kernel
theorem dX1_init_25 : decode cX1_init 25 = .ok (.putfield 18, 3) := by decide +kernel
theorem dX1_init_28 : decode cX1_init 28 = .ok (.return_, 1) := by decide +kernel
theorem dX1_has_0 : decode cX1_has 0 = .ok (.iload_n 1, 1) := by decide +kernel
theorem dX1_has_1 : decode cX1_has 1 = .ok (.ifCond .lt 15, 3) := by decide +kernel
theorem dX1_has_4 : decode cX1_has 4 = .ok (.iload_n 1, 1) := by decide +kernel
theorem dX1_has_5 : decode cX1_has 5 = .ok (.aload_n 0, 1) := by decide +kernel
theorem dX1_has_6 : decode cX1_has 6 = .ok (.getfield 21, 3) := by decide +kernel
theorem dX1_has_9 : decode cX1_has 9 = .ok (.if_icmp .ge 7, 3) := by decide +kernel
theorem dX1_has_12 : decode cX1_has 12 = .ok (.iconst 1, 1) := by decide +kernel
theorem dX1_has_13 : decode cX1_has 13 = .ok (.goto 4, 3) := by decide +kernel
theorem dX1_has_16 : decode cX1_has 16 = .ok (.iconst 0, 1) := by decide +kernel
theorem dX1_has_17 : decode cX1_has 17 = .ok (.ireturn, 1) := by decide +kernel
theorem dX1_add_0 : decode cX1_add 0 = .ok (.aload_n 0, 1) := by decide +kernel
theorem dX1_add_1 : decode cX1_add 1 = .ok (.getfield 21, 3) := by decide +kernel
theorem dX1_add_4 : decode cX1_add 4 = .ok (.istore 4, 2) := by decide +kernel
theorem dX1_add_6 : decode cX1_add 6 = .ok (.aload_n 0, 1) := by decide +kernel
theorem dX1_add_7 : decode cX1_add 7 = .ok (.getfield 9, 3) := by decide +kernel
theorem dX1_add_10 : decode cX1_add 10 = .ok (.iload 4, 2) := by decide +kernel
theorem dX1_add_12 : decode cX1_add 12 = .ok (.iload_n 1, 1) := by decide +kernel
theorem dX1_add_13 : decode cX1_add 13 = .ok (.iastore, 1) := by decide +kernel
theorem dX1_add_14 : decode cX1_add 14 = .ok (.aload_n 0, 1) := by decide +kernel
theorem dX1_add_15 : decode cX1_add 15 = .ok (.getfield 15, 3) := by decide +kernel
theorem dX1_add_18 : decode cX1_add 18 = .ok (.iload 4, 2) := by decide +kernel
theorem dX1_add_20 : decode cX1_add 20 = .ok (.iload_n 2, 1) := by decide +kernel
theorem dX1_add_21 : decode cX1_add 21 = .ok (.iastore, 1) := by decide +kernel
theorem dX1_add_22 : decode cX1_add 22 = .ok (.aload_n 0, 1) := by decide +kernel
theorem dX1_add_23 : decode cX1_add 23 = .ok (.getfield 18, 3) := by decide +kernel
theorem dX1_add_26 : decode cX1_add 26 = .ok (.iload 4, 2) := by decide +kernel
theorem dX1_add_28 : decode cX1_add 28 = .ok (.iload_n 3, 1) := by decide +kernel
theorem dX1_add_29 : decode cX1_add 29 = .ok (.iastore, 1) := by decide +kernel
theorem dX1_add_30 : decode cX1_add 30 = .ok (.aload_n 0, 1) := by decide +kernel
theorem dX1_add_31 : decode cX1_add 31 = .ok (.dup, 1) := by decide +kernel
theorem dX1_add_32 : decode cX1_add 32 = .ok (.getfield 21, 3) := by decide +kernel
theorem dX1_add_35 : decode cX1_add 35 = .ok (.iconst 1, 1) := by decide +kernel
theorem dX1_add_36 : decode cX1_add 36 = .ok (.iadd, 1) := by decide +kernel
theorem dX1_add_37 : decode cX1_add 37 = .ok (.putfield 21, 3) := by decide +kernel
theorem dX1_add_40 : decode cX1_add 40 = .ok (.iload 4, 2) := by decide +kernel
theorem dX1_add_42 : decode cX1_add 42 = .ok (.ireturn, 1) := by decide +kernel
theorem dX1_firstThatBinds_0 : decode cX1_firstThatBinds 0 = .ok (.iconst 0, 1) := by decide +kernel
theorem dX1_firstThatBinds_1 : decode cX1_firstThatBinds 1 = .ok (.istore_n 3, 1) := by decide +kernel
theorem dX1_firstThatBinds_2 : decode cX1_firstThatBinds 2 = .ok (.iload_n 3, 1) := by decide +kernel
theorem dX1_firstThatBinds_3 : decode cX1_firstThatBinds 3 = .ok (.aload_n 0, 1) := by decide +kernel
theorem dX1_firstThatBinds_4 : decode cX1_firstThatBinds 4 = .ok (.getfield 21, 3) := by decide +kernel
theorem dX1_firstThatBinds_7 : decode cX1_firstThatBinds 7 = .ok (.if_icmp .ge 61, 3) := by decide +kernel
theorem dX1_firstThatBinds_10 : decode cX1_firstThatBinds 10 = .ok (.aload_n 0, 1) := by decide +kernel
theorem dX1_firstThatBinds_11 : decode cX1_firstThatBinds 11 = .ok (.getfield 18, 3) := by decide +kernel
theorem dX1_firstThatBinds_14 : decode cX1_firstThatBinds 14 = .ok (.iload_n 3, 1) := by decide +kernel
theorem dX1_firstThatBinds_15 : decode cX1_firstThatBinds 15 = .ok (.iaload, 1) := by decide +kernel
theorem dX1_firstThatBinds_16 : decode cX1_firstThatBinds 16 = .ok (.aload_n 0, 1) := by decide +kernel
theorem dX1_firstThatBinds_17 : decode cX1_firstThatBinds 17 = .ok (.getfield 9, 3) := by decide +kernel
theorem dX1_firstThatBinds_20 : decode cX1_firstThatBinds 20 = .ok (.iload_n 3, 1) := by decide +kernel
theorem dX1_firstThatBinds_21 : decode cX1_firstThatBinds 21 = .ok (.iaload, 1) := by decide +kernel
theorem dX1_firstThatBinds_22 : decode cX1_firstThatBinds 22 = .ok (.iand, 1) := by decide +kernel
theorem dX1_firstThatBinds_23 : decode cX1_firstThatBinds 23 = .ok (.istore 4, 2) := by decide +kernel
theorem dX1_firstThatBinds_25 : decode cX1_firstThatBinds 25 = .ok (.aload_n 0, 1) := by decide +kernel
theorem dX1_firstThatBinds_26 : decode cX1_firstThatBinds 26 = .ok (.getfield 18, 3) := by decide +kernel
theorem dX1_firstThatBinds_29 : decode cX1_firstThatBinds 29 = .ok (.iload_n 3, 1) := by decide +kernel
theorem dX1_firstThatBinds_30 : decode cX1_firstThatBinds 30 = .ok (.iaload, 1) := by decide +kernel
theorem dX1_firstThatBinds_31 : decode cX1_firstThatBinds 31 = .ok (.aload_n 0, 1) := by decide +kernel
theorem dX1_firstThatBinds_32 : decode cX1_firstThatBinds 32 = .ok (.getfield 9, 3) := by decide +kernel
theorem dX1_firstThatBinds_35 : decode cX1_firstThatBinds 35 = .ok (.iload_n 3, 1) := by decide +kernel
theorem dX1_firstThatBinds_36 : decode cX1_firstThatBinds 36 = .ok (.iaload, 1) := by decide +kernel
theorem dX1_firstThatBinds_37 : decode cX1_firstThatBinds 37 = .ok (.iconst (-1), 1) := by decide +kernel
theorem dX1_firstThatBinds_38 : decode cX1_firstThatBinds 38 = .ok (.ixor, 1) := by decide +kernel
theorem dX1_firstThatBinds_39 : decode cX1_firstThatBinds 39 = .ok (.iand, 1) := by decide +kernel
theorem dX1_firstThatBinds_40 : decode cX1_firstThatBinds 40 = .ok (.istore 5, 2) := by decide +kernel
theorem dX1_firstThatBinds_42 : decode cX1_firstThatBinds 42 = .ok (.iload_n 1, 1) := by decide +kernel
theorem dX1_firstThatBinds_43 : decode cX1_firstThatBinds 43 = .ok (.iload 4, 2) := by decide +kernel
theorem dX1_firstThatBinds_45 : decode cX1_firstThatBinds 45 = .ok (.iand, 1) := by decide +kernel
theorem dX1_firstThatBinds_46 : decode cX1_firstThatBinds 46 = .ok (.iload 4, 2) := by decide +kernel
theorem dX1_firstThatBinds_48 : decode cX1_firstThatBinds 48 = .ok (.if_icmp .ne 14, 3) := by decide +kernel
theorem dX1_firstThatBinds_51 : decode cX1_firstThatBinds 51 = .ok (.iload_n 2, 1) := by decide +kernel
theorem dX1_firstThatBinds_52 : decode cX1_firstThatBinds 52 = .ok (.iload 5, 2) := by decide +kernel
theorem dX1_firstThatBinds_54 : decode cX1_firstThatBinds 54 = .ok (.iand, 1) := by decide +kernel
theorem dX1_firstThatBinds_55 : decode cX1_firstThatBinds 55 = .ok (.iload 5, 2) := by decide +kernel
theorem dX1_firstThatBinds_57 : decode cX1_firstThatBinds 57 = .ok (.if_icmp .ne 5, 3) := by decide +kernel
theorem dX1_firstThatBinds_60 : decode cX1_firstThatBinds 60 = .ok (.iload_n 3, 1) := by decide +kernel
theorem dX1_firstThatBinds_61 : decode cX1_firstThatBinds 61 = .ok (.ireturn, 1) := by decide +kernel
theorem dX1_firstThatBinds_62 : decode cX1_firstThatBinds 62 = .ok (.iinc 3 1, 3) := by decide +kernel
theorem dX1_firstThatBinds_65 : decode cX1_firstThatBinds 65 = .ok (.goto (-63), 3) := by decide +kernel
theorem dX1_firstThatBinds_68 : decode cX1_firstThatBinds 68 = .ok (.bipush (-6), 2) := by decide +kernel
theorem dX1_firstThatBinds_70 : decode cX1_firstThatBinds 70 = .ok (.ireturn, 1) := by decide +kernel
theorem dX2_init_0 : decode cX2_init 0 = .ok (.aload_n 0, 1) := by decide +kernel
theorem dX2_init_1 : decode cX2_init 1 = .ok (.invokespecial 3, 3) := by decide +kernel
theorem dX2_init_4 : decode cX2_init 4 = .ok (.return_, 1) := by decide +kernel
theorem dX2_begin_0 : decode cX2_begin 0 = .ok (.aload_n 0, 1) := by decide +kernel
theorem dX2_begin_1 : decode cX2_begin 1 = .ok (.iload_n 1, 1) := by decide +kernel
theorem dX2_begin_2 : decode cX2_begin 2 = .ok (.putfield 9, 3) := by decide +kernel
theorem dX2_begin_5 : decode cX2_begin 5 = .ok (.aload_n 0, 1) := by decide +kernel
theorem dX2_begin_6 : decode cX2_begin 6 = .ok (.iconst 0, 1) := by decide +kernel
theorem dX2_begin_7 : decode cX2_begin 7 = .ok (.putfield 15, 3) := by decide +kernel
theorem dX2_begin_10 : decode cX2_begin 10 = .ok (.aload_n 0, 1) := by decide +kernel
theorem dX2_begin_11 : decode cX2_begin 11 = .ok (.iconst 0, 1) := by decide +kernel
theorem dX2_begin_12 : decode cX2_begin 12 = .ok (.putfield 18, 3) := by decide +kernel
theorem dX2_begin_15 : decode cX2_begin 15 = .ok (.aload_n 0, 1) := by decide +kernel
theorem dX2_begin_16 : decode cX2_begin 16 = .ok (.iconst 0, 1) := by decide +kernel
theorem dX2_begin_17 : decode cX2_begin 17 = .ok (.putfield 21, 3) := by decide +kernel
theorem dX2_begin_20 : decode cX2_begin 20 = .ok (.return_, 1) := by decide +kernel
set_option maxRecDepth 20000 in
theorem ggX2_play_X2_winner : GoodIn wsX2_play wsX2_winner := goodIn_r _ [6, 7, 8, 9, 14, 15, 16, 17] (by decide +kernel) (by decide +kernel)
set_option maxRecDepth 20000 in
theorem gX2_play_X2_winner : GoodIn wsX2_play (wsV RX2 24 RX2 yX2_winner wsX2_winner) := goodIn_app (goodIn_of _ (by decide +kernel)) ggX2_play_X2_winner
set_option maxRecDepth 20000 in
theorem ggX2_play_X2_giveHoop : GoodIn wsX2_play wsX2_giveHoop := goodIn_r _ [13, 7, 9, 14, 15, 16, 17] (by decide +kernel) (by decide +kernel)
set_option maxRecDepth 20000 in
theorem gX2_play_X2_giveHoop : GoodIn wsX2_play (wsV RX2 28 RX2 yX2_giveHoop wsX2_giveHoop) := goodIn_app (goodIn_of _ (by decide +kernel)) ggX2_play_X2_giveHoop
theorem dX2_play_0 : decode cX2_play 0 = .ok (.aload_n 0, 1) := by decide +kernel
theorem dX2_play_1 : decode cX2_play 1 = .ok (.invokevirtual 24, 3) := by decide +kernel
theorem dX2_play_4 : decode cX2_play 4 = .ok (.bipush (-6), 2) := by decide +kernel
theorem dX2_play_6 : decode cX2_play 6 = .ok (.if_icmp .eq 4, 3) := by decide +kernel
theorem dX2_play_9 : decode cX2_play 9 = .ok (.return_, 1) := by decide +kernel
theorem dX2_play_10 : decode cX2_play 10 = .ok (.iload_n 1, 1) := by decide +kernel
theorem dX2_play_11 : decode cX2_play 11 = .ok (.iconst 1, 1) := by decide +kernel
theorem dX2_play_12 : decode cX2_play 12 = .ok (.if_icmp .ne 11, 3) := by decide +kernel
theorem dX2_play_15 : decode cX2_play 15 = .ok (.aload_n 0, 1) := by decide +kernel
theorem dX2_play_16 : decode cX2_play 16 = .ok (.aload_n 0, 1) := by decide +kernel
theorem dX2_play_17 : decode cX2_play 17 = .ok (.getfield 21, 3) := by decide +kernel
theorem dX2_play_20 : decode cX2_play 20 = .ok (.invokevirtual 28, 3) := by decide +kernel
theorem dX2_play_23 : decode cX2_play 23 = .ok (.iload_n 1, 1) := by decide +kernel
theorem dX2_play_24 : decode cX2_play 24 = .ok (.iconst 3, 1) := by decide +kernel
theorem dX2_play_25 : decode cX2_play 25 = .ok (.if_icmp .ne 13, 3) := by decide +kernel
theorem dX2_play_28 : decode cX2_play 28 = .ok (.aload_n 0, 1) := by decide +kernel
theorem dX2_play_29 : decode cX2_play 29 = .ok (.iconst 1, 1) := by decide +kernel
theorem dX2_play_30 : decode cX2_play 30 = .ok (.aload_n 0, 1) := by decide +kernel
theorem dX2_play_31 : decode cX2_play 31 = .ok (.getfield 21, 3) := by decide +kernel
theorem dX2_play_34 : decode cX2_play 34 = .ok (.isub, 1) := by decide +kernel
theorem dX2_play_35 : decode cX2_play 35 = .ok (.invokevirtual 28, 3) := by decide +kernel
theorem dX2_play_38 : decode cX2_play 38 = .ok (.iload_n 1, 1) := by decide +kernel
theorem dX2_play_39 : decode cX2_play 39 = .ok (.iconst 2, 1) := by decide +kernel
theorem dX2_play_40 : decode cX2_play 40 = .ok (.if_icmp .eq 8, 3) := by decide +kernel
theorem dX2_play_43 : decode cX2_play 43 = .ok (.iload_n 1, 1) := by decide +kernel
theorem dX2_play_44 : decode cX2_play 44 = .ok (.iconst 3, 1) := by decide +kernel
theorem dX2_play_45 : decode cX2_play 45 = .ok (.if_icmp .ne 13, 3) := by decide +kernel
theorem dX2_play_48 : decode cX2_play 48 = .ok (.aload_n 0, 1) := by decide +kernel
theorem dX2_play_49 : decode cX2_play 49 = .ok (.iconst 1, 1) := by decide +kernel
theorem dX2_play_50 : decode cX2_play 50 = .ok (.aload_n 0, 1) := by decide +kernel
theorem dX2_play_51 : decode cX2_play 51 = .ok (.getfield 21, 3) := by decide +kernel
theorem dX2_play_54 : decode cX2_play 54 = .ok (.isub, 1) := by decide +kernel
theorem dX2_play_55 : decode cX2_play 55 = .ok (.putfield 21, 3) := by decide +kernel
theorem dX2_play_58 : decode cX2_play 58 = .ok (.return_, 1) := by decide +kernel
theorem dX2_giveHoop_0 : decode cX2_giveHoop 0 = .ok (.iload_n 1, 1) := by decide +kernel
theorem dX2_giveHoop_1 : decode cX2_giveHoop 1 = .ok (.ifCond .ne 16, 3) := by decide +kernel
theorem dX2_giveHoop_4 : decode cX2_giveHoop 4 = .ok (.aload_n 0, 1) := by decide +kernel
theorem dX2_giveHoop_5 : decode cX2_giveHoop 5 = .ok (.dup, 1) := by decide +kernel
theorem dX2_giveHoop_6 : decode cX2_giveHoop 6 = .ok (.getfield 15, 3) := by decide +kernel
theorem dX2_giveHoop_9 : decode cX2_giveHoop 9 = .ok (.iconst 1, 1) := by decide +kernel
theorem dX2_giveHoop_10 : decode cX2_giveHoop 10 = .ok (.iadd, 1) := by decide +kernel
theorem dX2_giveHoop_11 : decode cX2_giveHoop 11 = .ok (.putfield 15, 3) := by decide +kernel
theorem dX2_giveHoop_14 : decode cX2_giveHoop 14 = .ok (.goto 13, 3) := by decide +kernel
theorem dX2_giveHoop_17 : decode cX2_giveHoop 17 = .ok (.aload_n 0, 1) := by decide +kernel
theorem dX2_giveHoop_18 : decode cX2_giveHoop 18 = .ok (.dup, 1) := by decide +kernel
theorem dX2_giveHoop_19 : decode cX2_giveHoop 19 = .ok (.getfield 18, 3) := by decide +kernel
theorem dX2_giveHoop_22 : decode cX2_giveHoop 22 = .ok (.iconst 1, 1) := by decide +kernel
theorem dX2_giveHoop_23 : decode cX2_giveHoop 23 = .ok (.iadd, 1) := by decide +kernel
theorem dX2_giveHoop_24 : decode cX2_giveHoop 24 = .ok (.putfield 18, 3) := by decide +kernel
theorem dX2_giveHoop_27 : decode cX2_giveHoop 27 = .ok (.return_, 1) := by decide +kernel
theorem dX2_winner_0 : decode cX2_winner 0 = .ok (.aload_n 0, 1) := by decide +kernel
theorem dX2_winner_1 : decode cX2_winner 1 = .ok (.getfield 15, 3) := by decide +kernel
theorem dX2_winner_4 : decode cX2_winner 4 = .ok (.aload_n 0, 1) := by decide +kernel
theorem dX2_winner_5 : decode cX2_winner 5 = .ok (.getfield 9, 3) := by decide +kernel
theorem dX2_winner_8 : decode cX2_winner 8 = .ok (.if_icmp .lt 5, 3) := by decide +kernel
theorem dX2_winner_11 : decode cX2_winner 11 = .ok (.iconst 0, 1) := by decide +kernel
theorem dX2_winner_12 : decode cX2_winner 12 = .ok (.ireturn, 1) := by decide +kernel
theorem dX2_winner_13 : decode cX2_winner 13 = .ok (.aload_n 0, 1) := by decide +kernel
theorem dX2_winner_14 : decode cX2_winner 14 = .ok (.getfield 18, 3) := by decide +kernel
theorem dX2_winner_17 : decode cX2_winner 17 = .ok (.aload_n 0, 1) := by decide +kernel
theorem dX2_winner_18 : decode cX2_winner 18 = .ok (.getfield 9, 3) := by decide +kernel
theorem dX2_winner_21 : decode cX2_winner 21 = .ok (.if_icmp .lt 7, 3) := by decide +kernel
theorem dX2_winner_24 : decode cX2_winner 24 = .ok (.iconst 1, 1) := by decide +kernel
theorem dX2_winner_25 : decode cX2_winner 25 = .ok (.goto 5, 3) := by decide +kernel
theorem dX2_winner_28 : decode cX2_winner 28 = .ok (.bipush (-6), 2) := by decide +kernel
theorem dX2_winner_30 : decode cX2_winner 30 = .ok (.ireturn, 1) := by decide +kernel
set_option maxRecDepth 20000 in
theorem ggX2_standsAs_X2_winner : GoodIn wsX2_standsAs wsX2_winner := goodIn_r _ [8, 1, 9, 2, 10, 11, 12, 13] (by decide +kernel) (by decide +kernel)
set_option maxRecDepth 20000 in
theorem gX2_standsAs_X2_winner : GoodIn wsX2_standsAs (wsV RX2 24 RX2 yX2_winner wsX2_winner) := goodIn_app (goodIn_of _ (by decide +kernel)) ggX2_standsAs_X2_winner
theorem dX2_standsAs_0 : decode cX2_standsAs 0 = .ok (.aload_n 0, 1) := by decide +kernel
theorem dX2_standsAs_1 : decode cX2_standsAs 1 = .ok (.getfield 15, 3) := by decide +kernel
theorem dX2_standsAs_4 : decode cX2_standsAs 4 = .ok (.aload_n 1, 1) := by decide +kernel
theorem dX2_standsAs_5 : decode cX2_standsAs 5 = .ok (.getfield 15, 3) := by decide +kernel
theorem dX2_standsAs_8 : decode cX2_standsAs 8 = .ok (.if_icmp .ne 40, 3) := by decide +kernel
theorem dX2_standsAs_11 : decode cX2_standsAs 11 = .ok (.aload_n 0, 1) := by decide +kernel
theorem dX2_standsAs_12 : decode cX2_standsAs 12 = .ok (.getfield 18, 3) := by decide +kernel
theorem dX2_standsAs_15 : decode cX2_standsAs 15 = .ok (.aload_n 1, 1) := by decide +kernel
theorem dX2_standsAs_16 : decode cX2_standsAs 16 = .ok (.getfield 18, 3) := by decide +kernel
theorem dX2_standsAs_19 : decode cX2_standsAs 19 = .ok (.if_icmp .ne 29, 3) := by decide +kernel
theorem dX2_standsAs_22 : decode cX2_standsAs 22 = .ok (.aload_n 0, 1) := by decide +kernel
theorem dX2_standsAs_23 : decode cX2_standsAs 23 = .ok (.getfield 21, 3) := by decide +kernel
theorem dX2_standsAs_26 : decode cX2_standsAs 26 = .ok (.aload_n 1, 1) := by decide +kernel
theorem dX2_standsAs_27 : decode cX2_standsAs 27 = .ok (.getfield 21, 3) := by decide +kernel
theorem dX2_standsAs_30 : decode cX2_standsAs 30 = .ok (.if_icmp .ne 18, 3) := by decide +kernel
theorem dX2_standsAs_33 : decode cX2_standsAs 33 = .ok (.aload_n 0, 1) := by decide +kernel
theorem dX2_standsAs_34 : decode cX2_standsAs 34 = .ok (.invokevirtual 24, 3) := by decide +kernel
theorem dX2_standsAs_37 : decode cX2_standsAs 37 = .ok (.aload_n 1, 1) := by decide +kernel
theorem dX2_standsAs_38 : decode cX2_standsAs 38 = .ok (.invokevirtual 24, 3) := by decide +kernel
theorem dX2_standsAs_41 : decode cX2_standsAs 41 = .ok (.if_icmp .ne 7, 3) := by decide +kernel
theorem dX2_standsAs_44 : decode cX2_standsAs 44 = .ok (.iconst 1, 1) := by decide +kernel
theorem dX2_standsAs_45 : decode cX2_standsAs 45 = .ok (.goto 4, 3) := by decide +kernel
theorem dX2_standsAs_48 : decode cX2_standsAs 48 = .ok (.iconst 0, 1) := by decide +kernel
theorem dX2_standsAs_49 : decode cX2_standsAs 49 = .ok (.ireturn, 1) := by decide +kernel
theorem dX3_init_0 : decode cX3_init 0 = .ok (.aload_n 0, 1) := by decide +kernel
theorem dX3_init_1 : decode cX3_init 1 = .ok (.invokespecial 3, 3) := by decide +kernel
theorem dX3_init_4 : decode cX3_init 4 = .ok (.aload_n 0, 1) := by decide +kernel
theorem dX3_init_5 : decode cX3_init 5 = .ok (.sipush 128, 3) := by decide +kernel
theorem dX3_init_8 : decode cX3_init 8 = .ok (.newarray .int, 2) := by decide +kernel
theorem dX3_init_10 : decode cX3_init 10 = .ok (.putfield 9, 3) := by decide +kernel
theorem dX3_init_13 : decode cX3_init 13 = .ok (.aload_n 0, 1) := by decide +kernel
theorem dX3_init_14 : decode cX3_init 14 = .ok (.aload_n 1, 1) := by decide +kernel
theorem dX3_init_15 : decode cX3_init 15 = .ok (.putfield 15, 3) := by decide +kernel
theorem dX3_init_18 : decode cX3_init 18 = .ok (.return_, 1) := by decide +kernel
set_option maxRecDepth 20000 in
theorem ggX3_work_X0_lawLine : GoodIn wsX3_work wsX0_lawLine := goodIn_r _ [7, 8, 9, 10, 11, 12, 6, 13, 14, 15, 16, 17, 18, 19, 22, 23, 24, 25, 26, 27, 28, 29, 30, 31, 32] (by decide +kernel) (by decide +kernel)
set_option maxRecDepth 20000 in
theorem gX3_work_X0_lawLine : GoodIn wsX3_work (wsV RX3 25 RX0 yX0_lawLine wsX0_lawLine) := goodIn_app (goodIn_of _ (by decide +kernel)) ggX3_work_X0_lawLine
theorem dX3_work_0 : decode cX3_work 0 = .ok (.iconst 0, 1) := by decide +kernel
theorem dX3_work_1 : decode cX3_work 1 = .ok (.istore_n 2, 1) := by decide +kernel
theorem dX3_work_2 : decode cX3_work 2 = .ok (.iload_n 2, 1) := by decide +kernel
theorem dX3_work_3 : decode cX3_work 3 = .ok (.aload_n 0, 1) := by decide +kernel
theorem dX3_work_4 : decode cX3_work 4 = .ok (.getfield 15, 3) := by decide +kernel
theorem dX3_work_7 : decode cX3_work 7 = .ok (.getfield 19, 3) := by decide +kernel
theorem dX3_work_10 : decode cX3_work 10 = .ok (.if_icmp .ge 24, 3) := by decide +kernel
theorem dX3_work_13 : decode cX3_work 13 = .ok (.aload_n 0, 1) := by decide +kernel
theorem dX3_work_14 : decode cX3_work 14 = .ok (.getfield 9, 3) := by decide +kernel
theorem dX3_work_17 : decode cX3_work 17 = .ok (.iload_n 2, 1) := by decide +kernel
theorem dX3_work_18 : decode cX3_work 18 = .ok (.aload_n 0, 1) := by decide +kernel
theorem dX3_work_19 : decode cX3_work 19 = .ok (.getfield 15, 3) := by decide +kernel
theorem dX3_work_22 : decode cX3_work 22 = .ok (.iload_n 2, 1) := by decide +kernel
theorem dX3_work_23 : decode cX3_work 23 = .ok (.iload_n 1, 1) := by decide +kernel
theorem dX3_work_24 : decode cX3_work 24 = .ok (.invokevirtual 25, 3) := by decide +kernel
theorem dX3_work_27 : decode cX3_work 27 = .ok (.iastore, 1) := by decide +kernel
theorem dX3_work_28 : decode cX3_work 28 = .ok (.iinc 2 1, 3) := by decide +kernel
theorem dX3_work_31 : decode cX3_work 31 = .ok (.goto (-29), 3) := by decide +kernel
theorem dX3_work_34 : decode cX3_work 34 = .ok (.return_, 1) := by decide +kernel
theorem dX3_covers_0 : decode cX3_covers 0 = .ok (.aload_n 0, 1) := by decide +kernel
theorem dX3_covers_1 : decode cX3_covers 1 = .ok (.getfield 9, 3) := by decide +kernel
theorem dX3_covers_4 : decode cX3_covers 4 = .ok (.iload_n 1, 1) := by decide +kernel
theorem dX3_covers_5 : decode cX3_covers 5 = .ok (.iaload, 1) := by decide +kernel
theorem dX3_covers_6 : decode cX3_covers 6 = .ok (.bipush (-6), 2) := by decide +kernel
theorem dX3_covers_8 : decode cX3_covers 8 = .ok (.if_icmp .eq 7, 3) := by decide +kernel
theorem dX3_covers_11 : decode cX3_covers 11 = .ok (.iconst 1, 1) := by decide +kernel
theorem dX3_covers_12 : decode cX3_covers 12 = .ok (.goto 4, 3) := by decide +kernel
theorem dX3_covers_15 : decode cX3_covers 15 = .ok (.iconst 0, 1) := by decide +kernel
theorem dX3_covers_16 : decode cX3_covers 16 = .ok (.ireturn, 1) := by decide +kernel
set_option maxRecDepth 20000 in
theorem ggX3_rulingFor_X3_covers : GoodIn wsX3_rulingFor wsX3_covers := goodIn_r _ [7, 2, 8, 9] (by decide +kernel) (by decide +kernel)
set_option maxRecDepth 20000 in
theorem gX3_rulingFor_X3_covers : GoodIn wsX3_rulingFor (wsV RX3 29 RX3 yX3_covers wsX3_covers) := goodIn_app (goodIn_of _ (by decide +kernel)) ggX3_rulingFor_X3_covers
theorem dX3_rulingFor_0 : decode cX3_rulingFor 0 = .ok (.aload_n 0, 1) := by decide +kernel
theorem dX3_rulingFor_1 : decode cX3_rulingFor 1 = .ok (.iload_n 1, 1) := by decide +kernel
theorem dX3_rulingFor_2 : decode cX3_rulingFor 2 = .ok (.invokevirtual 29, 3) := by decide +kernel
theorem dX3_rulingFor_5 : decode cX3_rulingFor 5 = .ok (.ifCond .eq 20, 3) := by decide +kernel
theorem dX3_rulingFor_8 : decode cX3_rulingFor 8 = .ok (.aload_n 0, 1) := by decide +kernel
theorem dX3_rulingFor_9 : decode cX3_rulingFor 9 = .ok (.getfield 15, 3) := by decide +kernel
theorem dX3_rulingFor_12 : decode cX3_rulingFor 12 = .ok (.getfield 33, 3) := by decide +kernel
theorem dX3_rulingFor_15 : decode cX3_rulingFor 15 = .ok (.aload_n 0, 1) := by decide +kernel
theorem dX3_rulingFor_16 : decode cX3_rulingFor 16 = .ok (.getfield 9, 3) := by decide +kernel
theorem dX3_rulingFor_19 : decode cX3_rulingFor 19 = .ok (.iload_n 1, 1) := by decide +kernel
theorem dX3_rulingFor_20 : decode cX3_rulingFor 20 = .ok (.iaload, 1) := by decide +kernel
theorem dX3_rulingFor_21 : decode cX3_rulingFor 21 = .ok (.iaload, 1) := by decide +kernel
theorem dX3_rulingFor_22 : decode cX3_rulingFor 22 = .ok (.goto 4, 3) := by decide +kernel
theorem dX3_rulingFor_25 : decode cX3_rulingFor 25 = .ok (.iconst 0, 1) := by decide +kernel
theorem dX3_rulingFor_26 : decode cX3_rulingFor 26 = .ok (.ireturn, 1) := by decide +kernel
set_option maxRecDepth 20000 in
theorem ggX3_differFor_X3_rulingFor : GoodIn wsX3_differFor wsX3_rulingFor := goodIn_r _ [5, 6, 7, 8, 9, 10, 4, 11, 12, 13, 14, 15, 16, 17, 18, 19, 20, 21, 22, 23, 24] (by decide +kernel) (by decide +kernel)
set_option maxRecDepth 20000 in
theorem gX3_differFor_X3_rulingFor : GoodIn wsX3_differFor (wsV RX3 36 RX3 yX3_rulingFor wsX3_rulingFor) := goodIn_app (goodIn_of _ (by decide +kernel)) ggX3_differFor_X3_rulingFor
set_option maxRecDepth 20000 in
theorem ggX3_differFor_X3_covers : GoodIn wsX3_differFor wsX3_covers := goodIn_r _ [11, 7, 12, 13] (by decide +kernel) (by decide +kernel)
set_option maxRecDepth 20000 in
theorem gX3_differFor_X3_covers : GoodIn wsX3_differFor (wsV RX3 29 RX3 yX3_covers wsX3_covers) := goodIn_app (goodIn_of _ (by decide +kernel)) ggX3_differFor_X3_covers
theorem dX3_differFor_0 : decode cX3_differFor 0 = .ok (.aload_n 0, 1) := by decide +kernel
theorem dX3_differFor_1 : decode cX3_differFor 1 = .ok (.iload_n 1, 1) := by decide +kernel
theorem dX3_differFor_2 : decode cX3_differFor 2 = .ok (.invokevirtual 36, 3) := by decide +kernel
theorem dX3_differFor_5 : decode cX3_differFor 5 = .ok (.aload_n 2, 1) := by decide +kernel
theorem dX3_differFor_6 : decode cX3_differFor 6 = .ok (.iload_n 1, 1) := by decide +kernel
theorem dX3_differFor_7 : decode cX3_differFor 7 = .ok (.invokevirtual 36, 3) := by decide +kernel
theorem dX3_differFor_10 : decode cX3_differFor 10 = .ok (.if_icmp .ne 16, 3) := by decide +kernel
theorem dX3_differFor_13 : decode cX3_differFor 13 = .ok (.aload_n 0, 1) := by decide +kernel
theorem dX3_differFor_14 : decode cX3_differFor 14 = .ok (.iload_n 1, 1) := by decide +kernel
theorem dX3_differFor_15 : decode cX3_differFor 15 = .ok (.invokevirtual 29, 3) := by decide +kernel
theorem dX3_differFor_18 : decode cX3_differFor 18 = .ok (.aload_n 2, 1) := by decide +kernel
theorem dX3_differFor_19 : decode cX3_differFor 19 = .ok (.iload_n 1, 1) := by decide +kernel
theorem dX3_differFor_20 : decode cX3_differFor 20 = .ok (.invokevirtual 29, 3) := by decide +kernel
theorem dX3_differFor_23 : decode cX3_differFor 23 = .ok (.if_icmp .eq 7, 3) := by decide +kernel
theorem dX3_differFor_26 : decode cX3_differFor 26 = .ok (.iconst 1, 1) := by decide +kernel
theorem dX3_differFor_27 : decode cX3_differFor 27 = .ok (.goto 4, 3) := by decide +kernel
theorem dX3_differFor_30 : decode cX3_differFor 30 = .ok (.iconst 0, 1) := by decide +kernel
theorem dX3_differFor_31 : decode cX3_differFor 31 = .ok (.ireturn, 1) := by decide +kernel
set_option maxRecDepth 20000 in
theorem ggX3_countMayBeRuled_X0_mayBe : GoodIn wsX3_countMayBeRuled wsX0_mayBe := goodIn_r _ [6, 7, 20, 21, 22, 23, 24, 25, 26, 27, 28, 29, 30] (by decide +kernel) (by decide +kernel)
set_option maxRecDepth 20000 in
theorem gX3_countMayBeRuled_X0_mayBe : GoodIn wsX3_countMayBeRuled (wsV RX3 40 RX0 yX0_mayBe wsX0_mayBe) := goodIn_app (goodIn_of _ (by decide +kernel)) ggX3_countMayBeRuled_X0_mayBe
set_option maxRecDepth 20000 in
theorem ggX3_countMayBeRuled_X3_rulingFor : GoodIn wsX3_countMayBeRuled wsX3_rulingFor := goodIn_r _ [12, 1, 13, 14, 15, 16, 11, 17, 18, 19, 20, 21, 22, 23, 24, 25, 26, 27, 28, 29, 30] (by decide +kernel) (by decide +kernel)
set_option maxRecDepth 20000 in
theorem gX3_countMayBeRuled_X3_rulingFor : GoodIn wsX3_countMayBeRuled (wsV RX3 36 RX3 yX3_rulingFor wsX3_rulingFor) := goodIn_app (goodIn_of _ (by decide +kernel)) ggX3_countMayBeRuled_X3_rulingFor
theorem dX3_countMayBeRuled_0 : decode cX3_countMayBeRuled 0 = .ok (.iconst 0, 1) := by decide +kernel
theorem dX3_countMayBeRuled_1 : decode cX3_countMayBeRuled 1 = .ok (.istore 4, 2) := by decide +kernel
theorem dX3_countMayBeRuled_3 : decode cX3_countMayBeRuled 3 = .ok (.iconst 0, 1) := by decide +kernel
theorem dX3_countMayBeRuled_4 : decode cX3_countMayBeRuled 4 = .ok (.istore 5, 2) := by decide +kernel
theorem dX3_countMayBeRuled_6 : decode cX3_countMayBeRuled 6 = .ok (.iload 5, 2) := by decide +kernel
theorem dX3_countMayBeRuled_8 : decode cX3_countMayBeRuled 8 = .ok (.aload_n 0, 1) := by decide +kernel
theorem dX3_countMayBeRuled_9 : decode cX3_countMayBeRuled 9 = .ok (.getfield 15, 3) := by decide +kernel
theorem dX3_countMayBeRuled_12 : decode cX3_countMayBeRuled 12 = .ok (.getfield 19, 3) := by decide +kernel
theorem dX3_countMayBeRuled_15 : decode cX3_countMayBeRuled 15 = .ok (.if_icmp .ge 36, 3) := by decide +kernel
theorem dX3_countMayBeRuled_18 : decode cX3_countMayBeRuled 18 = .ok (.aload_n 0, 1) := by decide +kernel
theorem dX3_countMayBeRuled_19 : decode cX3_countMayBeRuled 19 = .ok (.getfield 15, 3) := by decide +kernel
theorem dX3_countMayBeRuled_22 : decode cX3_countMayBeRuled 22 = .ok (.iload 5, 2) := by decide +kernel
theorem dX3_countMayBeRuled_24 : decode cX3_countMayBeRuled 24 = .ok (.iload_n 1, 1) := by decide +kernel
theorem dX3_countMayBeRuled_25 : decode cX3_countMayBeRuled 25 = .ok (.iload_n 2, 1) := by decide +kernel
theorem dX3_countMayBeRuled_26 : decode cX3_countMayBeRuled 26 = .ok (.invokevirtual 40, 3) := by decide +kernel
theorem dX3_countMayBeRuled_29 : decode cX3_countMayBeRuled 29 = .ok (.ifCond .eq 16, 3) := by decide +kernel
theorem dX3_countMayBeRuled_32 : decode cX3_countMayBeRuled 32 = .ok (.aload_n 0, 1) := by decide +kernel
theorem dX3_countMayBeRuled_33 : decode cX3_countMayBeRuled 33 = .ok (.iload 5, 2) := by decide +kernel
theorem dX3_countMayBeRuled_35 : decode cX3_countMayBeRuled 35 = .ok (.invokevirtual 36, 3) := by decide +kernel
theorem dX3_countMayBeRuled_38 : decode cX3_countMayBeRuled 38 = .ok (.iload_n 3, 1) := by decide +kernel
theorem dX3_countMayBeRuled_39 : decode cX3_countMayBeRuled 39 = .ok (.if_icmp .ne 6, 3) := by decide +kernel
theorem dX3_countMayBeRuled_42 : decode cX3_countMayBeRuled 42 = .ok (.iinc 4 1, 3) := by decide +kernel
theorem dX3_countMayBeRuled_45 : decode cX3_countMayBeRuled 45 = .ok (.iinc 5 1, 3) := by decide +kernel
theorem dX3_countMayBeRuled_48 : decode cX3_countMayBeRuled 48 = .ok (.goto (-42), 3) := by decide +kernel
theorem dX3_countMayBeRuled_51 : decode cX3_countMayBeRuled 51 = .ok (.iload 4, 2) := by decide +kernel
theorem dX3_countMayBeRuled_53 : decode cX3_countMayBeRuled 53 = .ok (.ireturn, 1) := by decide +kernel
set_option maxRecDepth 20000 in
theorem ggX3_rulingForAll_X0_mayBe : GoodIn wsX3_rulingForAll wsX0_mayBe := goodIn_r _ [6, 7, 20, 21, 22, 23, 24, 25, 26, 27, 28, 29, 30] (by decide +kernel) (by decide +kernel)
set_option maxRecDepth 20000 in
theorem gX3_rulingForAll_X0_mayBe : GoodIn wsX3_rulingForAll (wsV RX3 40 RX0 yX0_mayBe wsX0_mayBe) := goodIn_app (goodIn_of _ (by decide +kernel)) ggX3_rulingForAll_X0_mayBe
set_option maxRecDepth 20000 in
theorem ggX3_rulingForAll_X3_rulingFor : GoodIn wsX3_rulingForAll wsX3_rulingFor := goodIn_r _ [12, 1, 13, 14, 15, 16, 11, 17, 18, 19, 20, 21, 22, 23, 24, 25, 26, 27, 28, 29, 30] (by decide +kernel) (by decide +kernel)
set_option maxRecDepth 20000 in
theorem gX3_rulingForAll_X3_rulingFor : GoodIn wsX3_rulingForAll (wsV RX3 36 RX3 yX3_rulingFor wsX3_rulingFor) := goodIn_app (goodIn_of _ (by decide +kernel)) ggX3_rulingForAll_X3_rulingFor
theorem dX3_rulingForAll_0 : decode cX3_rulingForAll 0 = .ok (.iconst (-1), 1) := by decide +kernel
theorem dX3_rulingForAll_1 : decode cX3_rulingForAll 1 = .ok (.istore_n 3, 1) := by decide +kernel
theorem dX3_rulingForAll_2 : decode cX3_rulingForAll 2 = .ok (.iconst 0, 1) := by decide +kernel
theorem dX3_rulingForAll_3 : decode cX3_rulingForAll 3 = .ok (.istore 4, 2) := by decide +kernel
theorem dX3_rulingForAll_5 : decode cX3_rulingForAll 5 = .ok (.iload 4, 2) := by decide +kernel
theorem dX3_rulingForAll_7 : decode cX3_rulingForAll 7 = .ok (.aload_n 0, 1) := by decide +kernel
theorem dX3_rulingForAll_8 : decode cX3_rulingForAll 8 = .ok (.getfield 15, 3) := by decide +kernel
theorem dX3_rulingForAll_11 : decode cX3_rulingForAll 11 = .ok (.getfield 19, 3) := by decide +kernel
theorem dX3_rulingForAll_14 : decode cX3_rulingForAll 14 = .ok (.if_icmp .ge 47, 3) := by decide +kernel
theorem dX3_rulingForAll_17 : decode cX3_rulingForAll 17 = .ok (.aload_n 0, 1) := by decide +kernel
theorem dX3_rulingForAll_18 : decode cX3_rulingForAll 18 = .ok (.getfield 15, 3) := by decide +kernel
theorem dX3_rulingForAll_21 : decode cX3_rulingForAll 21 = .ok (.iload 4, 2) := by decide +kernel
theorem dX3_rulingForAll_23 : decode cX3_rulingForAll 23 = .ok (.iload_n 1, 1) := by decide +kernel
theorem dX3_rulingForAll_24 : decode cX3_rulingForAll 24 = .ok (.iload_n 2, 1) := by decide +kernel
theorem dX3_rulingForAll_25 : decode cX3_rulingForAll 25 = .ok (.invokevirtual 40, 3) := by decide +kernel
theorem dX3_rulingForAll_28 : decode cX3_rulingForAll 28 = .ok (.ifCond .eq 27, 3) := by decide +kernel
theorem dX3_rulingForAll_31 : decode cX3_rulingForAll 31 = .ok (.aload_n 0, 1) := by decide +kernel
theorem dX3_rulingForAll_32 : decode cX3_rulingForAll 32 = .ok (.iload 4, 2) := by decide +kernel
theorem dX3_rulingForAll_34 : decode cX3_rulingForAll 34 = .ok (.invokevirtual 36, 3) := by decide +kernel
theorem dX3_rulingForAll_37 : decode cX3_rulingForAll 37 = .ok (.istore 5, 2) := by decide +kernel
theorem dX3_rulingForAll_39 : decode cX3_rulingForAll 39 = .ok (.iload_n 3, 1) := by decide +kernel
theorem dX3_rulingForAll_40 : decode cX3_rulingForAll 40 = .ok (.iconst (-1), 1) := by decide +kernel
theorem dX3_rulingForAll_41 : decode cX3_rulingForAll 41 = .ok (.if_icmp .eq 11, 3) := by decide +kernel
theorem dX3_rulingForAll_44 : decode cX3_rulingForAll 44 = .ok (.iload_n 3, 1) := by decide +kernel
theorem dX3_rulingForAll_45 : decode cX3_rulingForAll 45 = .ok (.iload 5, 2) := by decide +kernel
theorem dX3_rulingForAll_47 : decode cX3_rulingForAll 47 = .ok (.if_icmp .eq 5, 3) := by decide +kernel
theorem dX3_rulingForAll_50 : decode cX3_rulingForAll 50 = .ok (.iconst 0, 1) := by decide +kernel
theorem dX3_rulingForAll_51 : decode cX3_rulingForAll 51 = .ok (.ireturn, 1) := by decide +kernel
theorem dX3_rulingForAll_52 : decode cX3_rulingForAll 52 = .ok (.iload 5, 2) := by decide +kernel
theorem dX3_rulingForAll_54 : decode cX3_rulingForAll 54 = .ok (.istore_n 3, 1) := by decide +kernel
theorem dX3_rulingForAll_55 : decode cX3_rulingForAll 55 = .ok (.iinc 4 1, 3) := by decide +kernel
theorem dX3_rulingForAll_58 : decode cX3_rulingForAll 58 = .ok (.goto (-53), 3) := by decide +kernel
theorem dX3_rulingForAll_61 : decode cX3_rulingForAll 61 = .ok (.iload_n 3, 1) := by decide +kernel
theorem dX3_rulingForAll_62 : decode cX3_rulingForAll 62 = .ok (.iconst (-1), 1) := by decide +kernel
theorem dX3_rulingForAll_63 : decode cX3_rulingForAll 63 = .ok (.if_icmp .ne 7, 3) := by decide +kernel
theorem dX3_rulingForAll_66 : decode cX3_rulingForAll 66 = .ok (.iconst 0, 1) := by decide +kernel
theorem dX3_rulingForAll_67 : decode cX3_rulingForAll 67 = .ok (.goto 4, 3) := by decide +kernel
theorem dX3_rulingForAll_70 : decode cX3_rulingForAll 70 = .ok (.iload_n 3, 1) := by decide +kernel
theorem dX3_rulingForAll_71 : decode cX3_rulingForAll 71 = .ok (.ireturn, 1) := by decide +kernel
theorem dX4_init_0 : decode cX4_init 0 = .ok (.aload_n 0, 1) := by decide +kernel
theorem dX4_init_1 : decode cX4_init 1 = .ok (.invokespecial 3, 3) := by decide +kernel
theorem dX4_init_4 : decode cX4_init 4 = .ok (.aload_n 0, 1) := by decide +kernel
theorem dX4_init_5 : decode cX4_init 5 = .ok (.bipush 90, 2) := by decide +kernel
theorem dX4_init_7 : decode cX4_init 7 = .ok (.newarray .int, 2) := by decide +kernel
theorem dX4_init_9 : decode cX4_init 9 = .ok (.putfield 9, 3) := by decide +kernel
theorem dX4_init_12 : decode cX4_init 12 = .ok (.aload_n 0, 1) := by decide +kernel
theorem dX4_init_13 : decode cX4_init 13 = .ok (.bipush 90, 2) := by decide +kernel
theorem dX4_init_15 : decode cX4_init 15 = .ok (.newarray .int, 2) := by decide +kernel
theorem dX4_init_17 : decode cX4_init 17 = .ok (.putfield 15, 3) := by decide +kernel
theorem dX4_init_20 : decode cX4_init 20 = .ok (.aload_n 0, 1) := by decide +kernel
theorem dX4_init_21 : decode cX4_init 21 = .ok (.bipush 30, 2) := by decide +kernel
theorem dX4_init_23 : decode cX4_init 23 = .ok (.newarray .int, 2) := by decide +kernel
theorem dX4_init_25 : decode cX4_init 25 = .ok (.putfield 18, 3) := by decide +kernel
theorem dX4_init_28 : decode cX4_init 28 = .ok (.return_, 1) := by decide +kernel
theorem dX4_has_0 : decode cX4_has 0 = .ok (.iload_n 1, 1) := by decide +kernel
theorem dX4_has_1 : decode cX4_has 1 = .ok (.ifCond .lt 15, 3) := by decide +kernel
theorem dX4_has_4 : decode cX4_has 4 = .ok (.iload_n 1, 1) := by decide +kernel
theorem dX4_has_5 : decode cX4_has 5 = .ok (.aload_n 0, 1) := by decide +kernel
theorem dX4_has_6 : decode cX4_has 6 = .ok (.getfield 21, 3) := by decide +kernel
theorem dX4_has_9 : decode cX4_has 9 = .ok (.if_icmp .ge 7, 3) := by decide +kernel
theorem dX4_has_12 : decode cX4_has 12 = .ok (.iconst 1, 1) := by decide +kernel
theorem dX4_has_13 : decode cX4_has 13 = .ok (.goto 4, 3) := by decide +kernel
theorem dX4_has_16 : decode cX4_has 16 = .ok (.iconst 0, 1) := by decide +kernel
theorem dX4_has_17 : decode cX4_has 17 = .ok (.ireturn, 1) := by decide +kernel
theorem dX4_add_0 : decode cX4_add 0 = .ok (.aload_n 0, 1) := by decide +kernel
theorem dX4_add_1 : decode cX4_add 1 = .ok (.getfield 21, 3) := by decide +kernel
theorem dX4_add_4 : decode cX4_add 4 = .ok (.istore_n 1, 1) := by decide +kernel
theorem dX4_add_5 : decode cX4_add 5 = .ok (.iconst 0, 1) := by decide +kernel
theorem dX4_add_6 : decode cX4_add 6 = .ok (.istore_n 2, 1) := by decide +kernel
theorem dX4_add_7 : decode cX4_add 7 = .ok (.iload_n 2, 1) := by decide +kernel
theorem dX4_add_8 : decode cX4_add 8 = .ok (.iconst 3, 1) := by decide +kernel
theorem dX4_add_9 : decode cX4_add 9 = .ok (.if_icmp .ge 31, 3) := by decide +kernel
theorem dX4_add_12 : decode cX4_add 12 = .ok (.aload_n 0, 1) := by decide +kernel
theorem dX4_add_13 : decode cX4_add 13 = .ok (.getfield 9, 3) := by decide +kernel
theorem dX4_add_16 : decode cX4_add 16 = .ok (.iload_n 1, 1) := by decide +kernel
theorem dX4_add_17 : decode cX4_add 17 = .ok (.iconst 3, 1) := by decide +kernel
theorem dX4_add_18 : decode cX4_add 18 = .ok (.imul, 1) := by decide +kernel
theorem dX4_add_19 : decode cX4_add 19 = .ok (.iload_n 2, 1) := by decide +kernel
theorem dX4_add_20 : decode cX4_add 20 = .ok (.iadd, 1) := by decide +kernel
theorem dX4_add_21 : decode cX4_add 21 = .ok (.iconst 0, 1) := by decide +kernel
theorem dX4_add_22 : decode cX4_add 22 = .ok (.iastore, 1) := by decide +kernel
theorem dX4_add_23 : decode cX4_add 23 = .ok (.aload_n 0, 1) := by decide +kernel
theorem dX4_add_24 : decode cX4_add 24 = .ok (.getfield 15, 3) := by decide +kernel
theorem dX4_add_27 : decode cX4_add 27 = .ok (.iload_n 1, 1) := by decide +kernel
theorem dX4_add_28 : decode cX4_add 28 = .ok (.iconst 3, 1) := by decide +kernel
theorem dX4_add_29 : decode cX4_add 29 = .ok (.imul, 1) := by decide +kernel
theorem dX4_add_30 : decode cX4_add 30 = .ok (.iload_n 2, 1) := by decide +kernel
theorem dX4_add_31 : decode cX4_add 31 = .ok (.iadd, 1) := by decide +kernel
theorem dX4_add_32 : decode cX4_add 32 = .ok (.iconst 0, 1) := by decide +kernel
theorem dX4_add_33 : decode cX4_add 33 = .ok (.iastore, 1) := by decide +kernel
theorem dX4_add_34 : decode cX4_add 34 = .ok (.iinc 2 1, 3) := by decide +kernel
theorem dX4_add_37 : decode cX4_add 37 = .ok (.goto (-30), 3) := by decide +kernel
theorem dX4_add_40 : decode cX4_add 40 = .ok (.aload_n 0, 1) := by decide +kernel
theorem dX4_add_41 : decode cX4_add 41 = .ok (.getfield 18, 3) := by decide +kernel
theorem dX4_add_44 : decode cX4_add 44 = .ok (.iload_n 1, 1) := by decide +kernel
theorem dX4_add_45 : decode cX4_add 45 = .ok (.iconst (-1), 1) := by decide +kernel
theorem dX4_add_46 : decode cX4_add 46 = .ok (.iastore, 1) := by decide +kernel
theorem dX4_add_47 : decode cX4_add 47 = .ok (.aload_n 0, 1) := by decide +kernel
theorem dX4_add_48 : decode cX4_add 48 = .ok (.dup, 1) := by decide +kernel
theorem dX4_add_49 : decode cX4_add 49 = .ok (.getfield 21, 3) := by decide +kernel
theorem dX4_add_52 : decode cX4_add 52 = .ok (.iconst 1, 1) := by decide +kernel
theorem dX4_add_53 : decode cX4_add 53 = .ok (.iadd, 1) := by decide +kernel
theorem dX4_add_54 : decode cX4_add 54 = .ok (.putfield 21, 3) := by decide +kernel
theorem dX4_add_57 : decode cX4_add 57 = .ok (.iload_n 1, 1) := by decide +kernel
theorem dX4_add_58 : decode cX4_add 58 = .ok (.ireturn, 1) := by decide +kernel
set_option maxRecDepth 20000 in
theorem ggX4_hear_X5_hasBit : GoodIn wsX4_hear wsX5_hasBit := goodIn_r _ [5] (by decide +kernel) (by decide +kernel)
set_option maxRecDepth 20000 in
theorem gX4_hear_X5_hasBit_n25 : GoodIn wsX4_hear (wsX5_hasBit) := ggX4_hear_X5_hasBit
theorem dX4_hear_0 : decode cX4_hear 0 = .ok (.iload_n 1, 1) := by decide +kernel
theorem dX4_hear_1 : decode cX4_hear 1 = .ok (.iconst 3, 1) := by decide +kernel
theorem dX4_hear_2 : decode cX4_hear 2 = .ok (.imul, 1) := by decide +kernel
theorem dX4_hear_3 : decode cX4_hear 3 = .ok (.iload_n 2, 1) := by decide +kernel
theorem dX4_hear_4 : decode cX4_hear 4 = .ok (.iadd, 1) := by decide +kernel
theorem dX4_hear_5 : decode cX4_hear 5 = .ok (.istore 5, 2) := by decide +kernel
theorem dX4_hear_7 : decode cX4_hear 7 = .ok (.iconst 2, 1) := by decide +kernel
theorem dX4_hear_8 : decode cX4_hear 8 = .ok (.istore 6, 2) := by decide +kernel
theorem dX4_hear_10 : decode cX4_hear 10 = .ok (.aload_n 0, 1) := by decide +kernel
theorem dX4_hear_11 : decode cX4_hear 11 = .ok (.getfield 9, 3) := by decide +kernel
theorem dX4_hear_14 : decode cX4_hear 14 = .ok (.iload 5, 2) := by decide +kernel
theorem dX4_hear_16 : decode cX4_hear 16 = .ok (.iaload, 1) := by decide +kernel
theorem dX4_hear_17 : decode cX4_hear 17 = .ok (.iload_n 3, 1) := by decide +kernel
theorem dX4_hear_18 : decode cX4_hear 18 = .ok (.invokestatic 25, 3) := by decide +kernel
theorem dX4_hear_21 : decode cX4_hear 21 = .ok (.ifCond .eq 9, 3) := by decide +kernel
theorem dX4_hear_24 : decode cX4_hear 24 = .ok (.iconst 1, 1) := by decide +kernel
theorem dX4_hear_25 : decode cX4_hear 25 = .ok (.istore 6, 2) := by decide +kernel
theorem dX4_hear_27 : decode cX4_hear 27 = .ok (.goto 20, 3) := by decide +kernel
theorem dX4_hear_30 : decode cX4_hear 30 = .ok (.aload_n 0, 1) := by decide +kernel
theorem dX4_hear_31 : decode cX4_hear 31 = .ok (.getfield 15, 3) := by decide +kernel
theorem dX4_hear_34 : decode cX4_hear 34 = .ok (.iload 5, 2) := by decide +kernel
theorem dX4_hear_36 : decode cX4_hear 36 = .ok (.iaload, 1) := by decide +kernel
theorem dX4_hear_37 : decode cX4_hear 37 = .ok (.iload_n 3, 1) := by decide +kernel
theorem dX4_hear_38 : decode cX4_hear 38 = .ok (.invokestatic 25, 3) := by decide +kernel
theorem dX4_hear_41 : decode cX4_hear 41 = .ok (.ifCond .eq 6, 3) := by decide +kernel
theorem dX4_hear_44 : decode cX4_hear 44 = .ok (.iconst 0, 1) := by decide +kernel
theorem dX4_hear_45 : decode cX4_hear 45 = .ok (.istore 6, 2) := by decide +kernel
theorem dX4_hear_47 : decode cX4_hear 47 = .ok (.aload_n 0, 1) := by decide +kernel
theorem dX4_hear_48 : decode cX4_hear 48 = .ok (.getfield 9, 3) := by decide +kernel
theorem dX4_hear_51 : decode cX4_hear 51 = .ok (.iload 5, 2) := by decide +kernel
theorem dX4_hear_53 : decode cX4_hear 53 = .ok (.dup2, 1) := by decide +kernel
theorem dX4_hear_54 : decode cX4_hear 54 = .ok (.iaload, 1) := by decide +kernel
theorem dX4_hear_55 : decode cX4_hear 55 = .ok (.iconst 1, 1) := by decide +kernel
theorem dX4_hear_56 : decode cX4_hear 56 = .ok (.iload_n 3, 1) := by decide +kernel
theorem dX4_hear_57 : decode cX4_hear 57 = .ok (.ishl, 1) := by decide +kernel
theorem dX4_hear_58 : decode cX4_hear 58 = .ok (.iconst (-1), 1) := by decide +kernel
theorem dX4_hear_59 : decode cX4_hear 59 = .ok (.ixor, 1) := by decide +kernel
theorem dX4_hear_60 : decode cX4_hear 60 = .ok (.iand, 1) := by decide +kernel
theorem dX4_hear_61 : decode cX4_hear 61 = .ok (.iastore, 1) := by decide +kernel
theorem dX4_hear_62 : decode cX4_hear 62 = .ok (.aload_n 0, 1) := by decide +kernel
theorem dX4_hear_63 : decode cX4_hear 63 = .ok (.getfield 15, 3) := by decide +kernel
theorem dX4_hear_66 : decode cX4_hear 66 = .ok (.iload 5, 2) := by decide +kernel
theorem dX4_hear_68 : decode cX4_hear 68 = .ok (.dup2, 1) := by decide +kernel
theorem dX4_hear_69 : decode cX4_hear 69 = .ok (.iaload, 1) := by decide +kernel
theorem dX4_hear_70 : decode cX4_hear 70 = .ok (.iconst 1, 1) := by decide +kernel
theorem dX4_hear_71 : decode cX4_hear 71 = .ok (.iload_n 3, 1) := by decide +kernel
theorem dX4_hear_72 : decode cX4_hear 72 = .ok (.ishl, 1) := by decide +kernel
theorem dX4_hear_73 : decode cX4_hear 73 = .ok (.iconst (-1), 1) := by decide +kernel
theorem dX4_hear_74 : decode cX4_hear 74 = .ok (.ixor, 1) := by decide +kernel
theorem dX4_hear_75 : decode cX4_hear 75 = .ok (.iand, 1) := by decide +kernel
theorem dX4_hear_76 : decode cX4_hear 76 = .ok (.iastore, 1) := by decide +kernel
theorem dX4_hear_77 : decode cX4_hear 77 = .ok (.iload 4, 2) := by decide +kernel
theorem dX4_hear_79 : decode cX4_hear 79 = .ok (.iconst 1, 1) := by decide +kernel
theorem dX4_hear_80 : decode cX4_hear 80 = .ok (.if_icmp .ne 19, 3) := by decide +kernel
theorem dX4_hear_83 : decode cX4_hear 83 = .ok (.aload_n 0, 1) := by decide +kernel
theorem dX4_hear_84 : decode cX4_hear 84 = .ok (.getfield 9, 3) := by decide +kernel
theorem dX4_hear_87 : decode cX4_hear 87 = .ok (.iload 5, 2) := by decide +kernel
theorem dX4_hear_89 : decode cX4_hear 89 = .ok (.dup2, 1) := by decide +kernel
theorem dX4_hear_90 : decode cX4_hear 90 = .ok (.iaload, 1) := by decide +kernel
theorem dX4_hear_91 : decode cX4_hear 91 = .ok (.iconst 1, 1) := by decide +kernel
theorem dX4_hear_92 : decode cX4_hear 92 = .ok (.iload_n 3, 1) := by decide +kernel
theorem dX4_hear_93 : decode cX4_hear 93 = .ok (.ishl, 1) := by decide +kernel
theorem dX4_hear_94 : decode cX4_hear 94 = .ok (.ior, 1) := by decide +kernel
theorem dX4_hear_95 : decode cX4_hear 95 = .ok (.iastore, 1) := by decide +kernel
theorem dX4_hear_96 : decode cX4_hear 96 = .ok (.goto 21, 3) := by decide +kernel
theorem dX4_hear_99 : decode cX4_hear 99 = .ok (.iload 4, 2) := by decide +kernel
theorem dX4_hear_101 : decode cX4_hear 101 = .ok (.ifCond .ne 16, 3) := by decide +kernel
theorem dX4_hear_104 : decode cX4_hear 104 = .ok (.aload_n 0, 1) := by decide +kernel
theorem dX4_hear_105 : decode cX4_hear 105 = .ok (.getfield 15, 3) := by decide +kernel
theorem dX4_hear_108 : decode cX4_hear 108 = .ok (.iload 5, 2) := by decide +kernel
theorem dX4_hear_110 : decode cX4_hear 110 = .ok (.dup2, 1) := by decide +kernel
theorem dX4_hear_111 : decode cX4_hear 111 = .ok (.iaload, 1) := by decide +kernel
theorem dX4_hear_112 : decode cX4_hear 112 = .ok (.iconst 1, 1) := by decide +kernel
theorem dX4_hear_113 : decode cX4_hear 113 = .ok (.iload_n 3, 1) := by decide +kernel
theorem dX4_hear_114 : decode cX4_hear 114 = .ok (.ishl, 1) := by decide +kernel
theorem dX4_hear_115 : decode cX4_hear 115 = .ok (.ior, 1) := by decide +kernel
theorem dX4_hear_116 : decode cX4_hear 116 = .ok (.iastore, 1) := by decide +kernel
theorem dX4_hear_117 : decode cX4_hear 117 = .ok (.iload 6, 2) := by decide +kernel
theorem dX4_hear_119 : decode cX4_hear 119 = .ok (.ireturn, 1) := by decide +kernel
set_option maxRecDepth 20000 in
theorem ggX4_knownSo_X4_ofAll : GoodIn wsX4_knownSo wsX4_ofAll := goodIn_r _ [6] (by decide +kernel) (by decide +kernel)
set_option maxRecDepth 20000 in
theorem gX4_knownSo_X4_ofAll : GoodIn wsX4_knownSo (va_wsS RX4 29 yX4_ofAll wsX4_ofAll) := goodIn_app (goodIn_of _ (by decide +kernel)) ggX4_knownSo_X4_ofAll
theorem dX4_knownSo_0 : decode cX4_knownSo 0 = .ok (.aload_n 0, 1) := by decide +kernel
theorem dX4_knownSo_1 : decode cX4_knownSo 1 = .ok (.getfield 9, 3) := by decide +kernel
theorem dX4_knownSo_4 : decode cX4_knownSo 4 = .ok (.iload_n 1, 1) := by decide +kernel
theorem dX4_knownSo_5 : decode cX4_knownSo 5 = .ok (.invokestatic 29, 3) := by decide +kernel
theorem dX4_knownSo_8 : decode cX4_knownSo 8 = .ok (.aload_n 0, 1) := by decide +kernel
theorem dX4_knownSo_9 : decode cX4_knownSo 9 = .ok (.getfield 15, 3) := by decide +kernel
theorem dX4_knownSo_12 : decode cX4_knownSo 12 = .ok (.iload_n 1, 1) := by decide +kernel
theorem dX4_knownSo_13 : decode cX4_knownSo 13 = .ok (.invokestatic 29, 3) := by decide +kernel
theorem dX4_knownSo_16 : decode cX4_knownSo 16 = .ok (.iconst (-1), 1) := by decide +kernel
theorem dX4_knownSo_17 : decode cX4_knownSo 17 = .ok (.ixor, 1) := by decide +kernel
theorem dX4_knownSo_18 : decode cX4_knownSo 18 = .ok (.iand, 1) := by decide +kernel
theorem dX4_knownSo_19 : decode cX4_knownSo 19 = .ok (.ireturn, 1) := by decide +kernel
set_option maxRecDepth 20000 in
theorem ggX4_knownNotSo_X4_ofAll : GoodIn wsX4_knownNotSo wsX4_ofAll := goodIn_r _ [6] (by decide +kernel) (by decide +kernel)
set_option maxRecDepth 20000 in
theorem gX4_knownNotSo_X4_ofAll : GoodIn wsX4_knownNotSo (va_wsS RX4 29 yX4_ofAll wsX4_ofAll) := goodIn_app (goodIn_of _ (by decide +kernel)) ggX4_knownNotSo_X4_ofAll
theorem dX4_knownNotSo_0 : decode cX4_knownNotSo 0 = .ok (.aload_n 0, 1) := by decide +kernel
theorem dX4_knownNotSo_1 : decode cX4_knownNotSo 1 = .ok (.getfield 15, 3) := by decide +kernel
theorem dX4_knownNotSo_4 : decode cX4_knownNotSo 4 = .ok (.iload_n 1, 1) := by decide +kernel
theorem dX4_knownNotSo_5 : decode cX4_knownNotSo 5 = .ok (.invokestatic 29, 3) := by decide +kernel
theorem dX4_knownNotSo_8 : decode cX4_knownNotSo 8 = .ok (.aload_n 0, 1) := by decide +kernel
theorem dX4_knownNotSo_9 : decode cX4_knownNotSo 9 = .ok (.getfield 9, 3) := by decide +kernel
theorem dX4_knownNotSo_12 : decode cX4_knownNotSo 12 = .ok (.iload_n 1, 1) := by decide +kernel
theorem dX4_knownNotSo_13 : decode cX4_knownNotSo 13 = .ok (.invokestatic 29, 3) := by decide +kernel
theorem dX4_knownNotSo_16 : decode cX4_knownNotSo 16 = .ok (.iconst (-1), 1) := by decide +kernel
theorem dX4_knownNotSo_17 : decode cX4_knownNotSo 17 = .ok (.ixor, 1) := by decide +kernel
theorem dX4_knownNotSo_18 : decode cX4_knownNotSo 18 = .ok (.iand, 1) := by decide +kernel
theorem dX4_knownNotSo_19 : decode cX4_knownNotSo 19 = .ok (.ireturn, 1) := by decide +kernel
theorem dX4_ofAll_0 : decode cX4_ofAll 0 = .ok (.iconst 0, 1) := by decide +kernel
theorem dX4_ofAll_1 : decode cX4_ofAll 1 = .ok (.istore_n 2, 1) := by decide +kernel
theorem dX4_ofAll_2 : decode cX4_ofAll 2 = .ok (.iconst 0, 1) := by decide +kernel
theorem dX4_ofAll_3 : decode cX4_ofAll 3 = .ok (.istore_n 3, 1) := by decide +kernel
theorem dX4_ofAll_4 : decode cX4_ofAll 4 = .ok (.iload_n 3, 1) := by decide +kernel
theorem dX4_ofAll_5 : decode cX4_ofAll 5 = .ok (.iconst 3, 1) := by decide +kernel
theorem dX4_ofAll_6 : decode cX4_ofAll 6 = .ok (.if_icmp .ge 19, 3) := by decide +kernel
theorem dX4_ofAll_9 : decode cX4_ofAll 9 = .ok (.iload_n 2, 1) := by decide +kernel
theorem dX4_ofAll_10 : decode cX4_ofAll 10 = .ok (.aload_n 0, 1) := by decide +kernel
theorem dX4_ofAll_11 : decode cX4_ofAll 11 = .ok (.iload_n 1, 1) := by decide +kernel
theorem dX4_ofAll_12 : decode cX4_ofAll 12 = .ok (.iconst 3, 1) := by decide +kernel
theorem dX4_ofAll_13 : decode cX4_ofAll 13 = .ok (.imul, 1) := by decide +kernel
theorem dX4_ofAll_14 : decode cX4_ofAll 14 = .ok (.iload_n 3, 1) := by decide +kernel
theorem dX4_ofAll_15 : decode cX4_ofAll 15 = .ok (.iadd, 1) := by decide +kernel
theorem dX4_ofAll_16 : decode cX4_ofAll 16 = .ok (.iaload, 1) := by decide +kernel
theorem dX4_ofAll_17 : decode cX4_ofAll 17 = .ok (.ior, 1) := by decide +kernel
theorem dX4_ofAll_18 : decode cX4_ofAll 18 = .ok (.istore_n 2, 1) := by decide +kernel
theorem dX4_ofAll_19 : decode cX4_ofAll 19 = .ok (.iinc 3 1, 3) := by decide +kernel
theorem dX4_ofAll_22 : decode cX4_ofAll 22 = .ok (.goto (-18), 3) := by decide +kernel
theorem dX4_ofAll_25 : decode cX4_ofAll 25 = .ok (.iload_n 2, 1) := by decide +kernel
theorem dX4_ofAll_26 : decode cX4_ofAll 26 = .ok (.ireturn, 1) := by decide +kernel
theorem dX5_oneIf_0 : decode cX5_oneIf 0 = .ok (.iload_n 0, 1) := by decide +kernel
theorem dX5_oneIf_1 : decode cX5_oneIf 1 = .ok (.ifCond .eq 7, 3) := by decide +kernel
theorem dX5_oneIf_4 : decode cX5_oneIf 4 = .ok (.iconst 1, 1) := by decide +kernel
theorem dX5_oneIf_5 : decode cX5_oneIf 5 = .ok (.goto 4, 3) := by decide +kernel
theorem dX5_oneIf_8 : decode cX5_oneIf 8 = .ok (.iconst 0, 1) := by decide +kernel
theorem dX5_oneIf_9 : decode cX5_oneIf 9 = .ok (.ireturn, 1) := by decide +kernel
theorem dX5_hasBit_0 : decode cX5_hasBit 0 = .ok (.iload_n 0, 1) := by decide +kernel
theorem dX5_hasBit_1 : decode cX5_hasBit 1 = .ok (.iload_n 1, 1) := by decide +kernel
theorem dX5_hasBit_2 : decode cX5_hasBit 2 = .ok (.ishr, 1) := by decide +kernel
theorem dX5_hasBit_3 : decode cX5_hasBit 3 = .ok (.iconst 1, 1) := by decide +kernel
theorem dX5_hasBit_4 : decode cX5_hasBit 4 = .ok (.iand, 1) := by decide +kernel
theorem dX5_hasBit_5 : decode cX5_hasBit 5 = .ok (.ifCond .eq 7, 3) := by decide +kernel
theorem dX5_hasBit_8 : decode cX5_hasBit 8 = .ok (.iconst 1, 1) := by decide +kernel
theorem dX5_hasBit_9 : decode cX5_hasBit 9 = .ok (.goto 4, 3) := by decide +kernel
theorem dX5_hasBit_12 : decode cX5_hasBit 12 = .ok (.iconst 0, 1) := by decide +kernel
theorem dX5_hasBit_13 : decode cX5_hasBit 13 = .ok (.ireturn, 1) := by decide +kernel
theorem dX5_isRuling_0 : decode cX5_isRuling 0 = .ok (.iload_n 0, 1) := by decide +kernel
theorem dX5_isRuling_1 : decode cX5_isRuling 1 = .ok (.ifCond .lt 12, 3) := by decide +kernel
theorem dX5_isRuling_4 : decode cX5_isRuling 4 = .ok (.iload_n 0, 1) := by decide +kernel
theorem dX5_isRuling_5 : decode cX5_isRuling 5 = .ok (.iconst 4, 1) := by decide +kernel
theorem dX5_isRuling_6 : decode cX5_isRuling 6 = .ok (.if_icmp .gt 7, 3) := by decide +kernel
theorem dX5_isRuling_9 : decode cX5_isRuling 9 = .ok (.iconst 1, 1) := by decide +kernel
theorem dX5_isRuling_10 : decode cX5_isRuling 10 = .ok (.goto 4, 3) := by decide +kernel
theorem dX5_isRuling_13 : decode cX5_isRuling 13 = .ok (.iconst 0, 1) := by decide +kernel
theorem dX5_isRuling_14 : decode cX5_isRuling 14 = .ok (.ireturn, 1) := by decide +kernel
