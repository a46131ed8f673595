theorem dX6_init_0 : decode cX6_init 0 = .ok (.aload_n 0, 1) := by decide +kernel
theorem dX6_init_1 : decode cX6_init 1 = .ok (.invokespecial 1, 3) := by decide +kernel
theorem dX6_init_4 : decode cX6_init 4 = .ok (.aload_n 0, 1) := by decide +kernel
theorem dX6_init_5 : decode cX6_init 5 = .ok (.iconst 4, 1) := by decide +kernel
theorem dX6_init_6 : decode cX6_init 6 = .ok (.putfield 7, 3) := by decide +kernel
theorem dX6_init_9 : decode cX6_init 9 = .ok (.aload_n 0, 1) := by decide +kernel
theorem dX6_init_10 : decode cX6_init 10 = .ok (.bipush 7, 2) := by decide +kernel
theorem dX6_init_12 : decode cX6_init 12 = .ok (.newarray .int, 2) := by decide +kernel
theorem dX6_init_14 : decode cX6_init 14 = .ok (.putfield 13, 3) := by decide +kernel
theorem dX6_init_17 : decode cX6_init 17 = .ok (.aload_n 0, 1) := by decide +kernel
theorem dX6_init_18 : decode cX6_init 18 = .ok (.bipush 12, 2) := by decide +kernel
theorem dX6_init_20 : decode cX6_init 20 = .ok (.newarray .int, 2) := by decide +kernel
theorem dX6_init_22 : decode cX6_init 22 = .ok (.putfield 17, 3) := by decide +kernel
theorem dX6_init_25 : decode cX6_init 25 = .ok (.aload_n 0, 1) := by decide +kernel
theorem dX6_init_26 : decode cX6_init 26 = .ok (.bipush 12, 2) := by decide +kernel
theorem dX6_init_28 : decode cX6_init 28 = .ok (.newarray .int, 2) := by decide +kernel
theorem dX6_init_30 : decode cX6_init 30 = .ok (.putfield 20, 3) := by decide +kernel
theorem dX6_init_33 : decode cX6_init 33 = .ok (.aload_n 0, 1) := by decide +kernel
theorem dX6_init_34 : decode cX6_init 34 = .ok (.bipush 12, 2) := by decide +kernel
theorem dX6_init_36 : decode cX6_init 36 = .ok (.newarray .int, 2) := by decide +kernel
theorem dX6_init_38 : decode cX6_init 38 = .ok (.putfield 23, 3) := by decide +kernel
theorem dX6_init_41 : decode cX6_init 41 = .ok (.aload_n 0, 1) := by decide +kernel
theorem dX6_init_42 : decode cX6_init 42 = .ok (.bipush 12, 2) := by decide +kernel
theorem dX6_init_44 : decode cX6_init 44 = .ok (.newarray .boolean, 2) := by decide +kernel
theorem dX6_init_46 : decode cX6_init 46 = .ok (.putfield 26, 3) := by decide +kernel
theorem dX6_init_49 : decode cX6_init 49 = .ok (.aload_n 0, 1) := by decide +kernel
theorem dX6_init_50 : decode cX6_init 50 = .ok (.bipush 12, 2) := by decide +kernel
theorem dX6_init_52 : decode cX6_init 52 = .ok (.newarray .int, 2) := by decide +kernel
theorem dX6_init_54 : decode cX6_init 54 = .ok (.putfield 30, 3) := by decide +kernel
theorem dX6_init_57 : decode cX6_init 57 = .ok (.aload_n 0, 1) := by decide +kernel
theorem dX6_init_58 : decode cX6_init 58 = .ok (.bipush 90, 2) := by decide +kernel
theorem dX6_init_60 : decode cX6_init 60 = .ok (.newarray .int, 2) := by decide +kernel
theorem dX6_init_62 : decode cX6_init 62 = .ok (.putfield 33, 3) := by decide +kernel
theorem dX6_init_65 : decode cX6_init 65 = .ok (.aload_n 0, 1) := by decide +kernel
theorem dX6_init_66 : decode cX6_init 66 = .ok (.bipush 90, 2) := by decide +kernel
theorem dX6_init_68 : decode cX6_init 68 = .ok (.newarray .int, 2) := by decide +kernel
theorem dX6_init_70 : decode cX6_init 70 = .ok (.putfield 36, 3) := by decide +kernel
theorem dX6_init_73 : decode cX6_init 73 = .ok (.aload_n 0, 1) := by decide +kernel
theorem dX6_init_74 : decode cX6_init 74 = .ok (.bipush 30, 2) := by decide +kernel
theorem dX6_init_76 : decode cX6_init 76 = .ok (.newarray .int, 2) := by decide +kernel
theorem dX6_init_78 : decode cX6_init 78 = .ok (.putfield 39, 3) := by decide +kernel
theorem dX6_init_81 : decode cX6_init 81 = .ok (.aload_n 0, 1) := by decide +kernel
theorem dX6_init_82 : decode cX6_init 82 = .ok (.bipush 12, 2) := by decide +kernel
theorem dX6_init_84 : decode cX6_init 84 = .ok (.newarray .int, 2) := by decide +kernel
theorem dX6_init_86 : decode cX6_init 86 = .ok (.putfield 42, 3) := by decide +kernel
theorem dX6_init_89 : decode cX6_init 89 = .ok (.aload_n 0, 1) := by decide +kernel
theorem dX6_init_90 : decode cX6_init 90 = .ok (.bipush 12, 2) := by decide +kernel
theorem dX6_init_92 : decode cX6_init 92 = .ok (.newarray .int, 2) := by decide +kernel
theorem dX6_init_94 : decode cX6_init 94 = .ok (.putfield 45, 3) := by decide +kernel
theorem dX6_init_97 : decode cX6_init 97 = .ok (.aload_n 0, 1) := by decide +kernel
theorem dX6_init_98 : decode cX6_init 98 = .ok (.bipush 12, 2) := by decide +kernel
theorem dX6_init_100 : decode cX6_init 100 = .ok (.newarray .int, 2) := by decide +kernel
theorem dX6_init_102 : decode cX6_init 102 = .ok (.putfield 48, 3) := by decide +kernel
theorem dX6_init_105 : decode cX6_init 105 = .ok (.aload_n 0, 1) := by decide +kernel
theorem dX6_init_106 : decode cX6_init 106 = .ok (.iconst 5, 1) := by decide +kernel
theorem dX6_init_107 : decode cX6_init 107 = .ok (.putfield 51, 3) := by decide +kernel
theorem dX6_init_110 : decode cX6_init 110 = .ok (.aload_n 0, 1) := by decide +kernel
theorem dX6_init_111 : decode cX6_init 111 = .ok (.sipush 128, 3) := by decide +kernel
theorem dX6_init_114 : decode cX6_init 114 = .ok (.newarray .int, 2) := by decide +kernel
theorem dX6_init_116 : decode cX6_init 116 = .ok (.putfield 54, 3) := by decide +kernel
theorem dX6_init_119 : decode cX6_init 119 = .ok (.aload_n 0, 1) := by decide +kernel
theorem dX6_init_120 : decode cX6_init 120 = .ok (.bipush 30, 2) := by decide +kernel
theorem dX6_init_122 : decode cX6_init 122 = .ok (.newarray .int, 2) := by decide +kernel
theorem dX6_init_124 : decode cX6_init 124 = .ok (.putfield 57, 3) := by decide +kernel
theorem dX6_init_127 : decode cX6_init 127 = .ok (.aload_n 0, 1) := by decide +kernel
theorem dX6_init_128 : decode cX6_init 128 = .ok (.iconst 4, 1) := by decide +kernel
theorem dX6_init_129 : decode cX6_init 129 = .ok (.newarray .int, 2) := by decide +kernel
theorem dX6_init_131 : decode cX6_init 131 = .ok (.putfield 60, 3) := by decide +kernel
theorem dX6_init_134 : decode cX6_init 134 = .ok (.aload_n 0, 1) := by decide +kernel
theorem dX6_init_135 : decode cX6_init 135 = .ok (.bipush 30, 2) := by decide +kernel
theorem dX6_init_137 : decode cX6_init 137 = .ok (.newarray .int, 2) := by decide +kernel
theorem dX6_init_139 : decode cX6_init 139 = .ok (.putfield 63, 3) := by decide +kernel
theorem dX6_init_142 : decode cX6_init 142 = .ok (.return_, 1) := by decide +kernel
theorem dX6_in_0 : decode cX6_in 0 = .ok (.iload_n 0, 1) := by decide +kernel
theorem dX6_in_1 : decode cX6_in 1 = .ok (.iload_n 1, 1) := by decide +kernel
theorem dX6_in_2 : decode cX6_in 2 = .ok (.if_icmp .lt 12, 3) := by decide +kernel
theorem dX6_in_5 : decode cX6_in 5 = .ok (.iload_n 0, 1) := by decide +kernel
theorem dX6_in_6 : decode cX6_in 6 = .ok (.iload_n 2, 1) := by decide +kernel
theorem dX6_in_7 : decode cX6_in 7 = .ok (.if_icmp .gt 7, 3) := by decide +kernel
theorem dX6_in_10 : decode cX6_in 10 = .ok (.iconst 1, 1) := by decide +kernel
theorem dX6_in_11 : decode cX6_in 11 = .ok (.goto 4, 3) := by decide +kernel
theorem dX6_in_14 : decode cX6_in 14 = .ok (.iconst 0, 1) := by decide +kernel
theorem dX6_in_15 : decode cX6_in 15 = .ok (.ireturn, 1) := by decide +kernel
set_option maxRecDepth 20000 in
theorem ggX6_isFact_X6_in : GoodIn wsX6_isFact wsX6_in := goodIn_r _ [5] (by decide +kernel) (by decide +kernel)
set_option maxRecDepth 20000 in
theorem gX6_isFact_X6_in : GoodIn wsX6_isFact (va_wsS RX6 66 yX6_in wsX6_in) := goodIn_app (goodIn_of _ (by decide +kernel)) ggX6_isFact_X6_in
theorem dX6_isFact_0 : decode cX6_isFact 0 = .ok (.iload_n 1, 1) := by decide +kernel
theorem dX6_isFact_1 : decode cX6_isFact 1 = .ok (.iconst 0, 1) := by decide +kernel
theorem dX6_isFact_2 : decode cX6_isFact 2 = .ok (.aload_n 0, 1) := by decide +kernel
theorem dX6_isFact_3 : decode cX6_isFact 3 = .ok (.getfield 7, 3) := by decide +kernel
theorem dX6_isFact_6 : decode cX6_isFact 6 = .ok (.iconst 1, 1) := by decide +kernel
theorem dX6_isFact_7 : decode cX6_isFact 7 = .ok (.isub, 1) := by decide +kernel
theorem dX6_isFact_8 : decode cX6_isFact 8 = .ok (.invokestatic 66, 3) := by decide +kernel
theorem dX6_isFact_11 : decode cX6_isFact 11 = .ok (.ireturn, 1) := by decide +kernel
theorem dX6_allFacts_0 : decode cX6_allFacts 0 = .ok (.iconst 1, 1) := by decide +kernel
theorem dX6_allFacts_1 : decode cX6_allFacts 1 = .ok (.aload_n 0, 1) := by decide +kernel
theorem dX6_allFacts_2 : decode cX6_allFacts 2 = .ok (.getfield 7, 3) := by decide +kernel
theorem dX6_allFacts_5 : decode cX6_allFacts 5 = .ok (.ishl, 1) := by decide +kernel
theorem dX6_allFacts_6 : decode cX6_allFacts 6 = .ok (.iconst 1, 1) := by decide +kernel
theorem dX6_allFacts_7 : decode cX6_allFacts 7 = .ok (.isub, 1) := by decide +kernel
theorem dX6_allFacts_8 : decode cX6_allFacts 8 = .ok (.ireturn, 1) := by decide +kernel
set_option maxRecDepth 20000 in
theorem ggX6_isLine_X6_in : GoodIn wsX6_isLine wsX6_in := goodIn_r _ [5] (by decide +kernel) (by decide +kernel)
set_option maxRecDepth 20000 in
theorem gX6_isLine_X6_in : GoodIn wsX6_isLine (va_wsS RX6 66 yX6_in wsX6_in) := goodIn_app (goodIn_of _ (by decide +kernel)) ggX6_isLine_X6_in
theorem dX6_isLine_0 : decode cX6_isLine 0 = .ok (.iload_n 1, 1) := by decide +kernel
theorem dX6_isLine_1 : decode cX6_isLine 1 = .ok (.iconst 0, 1) := by decide +kernel
theorem dX6_isLine_2 : decode cX6_isLine 2 = .ok (.aload_n 0, 1) := by decide +kernel
theorem dX6_isLine_3 : decode cX6_isLine 3 = .ok (.getfield 70, 3) := by decide +kernel
theorem dX6_isLine_6 : decode cX6_isLine 6 = .ok (.iconst 1, 1) := by decide +kernel
theorem dX6_isLine_7 : decode cX6_isLine 7 = .ok (.isub, 1) := by decide +kernel
theorem dX6_isLine_8 : decode cX6_isLine 8 = .ok (.invokestatic 66, 3) := by decide +kernel
theorem dX6_isLine_11 : decode cX6_isLine 11 = .ok (.ireturn, 1) := by decide +kernel
set_option maxRecDepth 20000 in
theorem ggX6_isRuling_X6_in : GoodIn wsX6_isRuling wsX6_in := goodIn_r _ [4] (by decide +kernel) (by decide +kernel)
set_option maxRecDepth 20000 in
theorem gX6_isRuling_X6_in : GoodIn wsX6_isRuling (va_wsS RX6 66 yX6_in wsX6_in) := goodIn_app (goodIn_of _ (by decide +kernel)) ggX6_isRuling_X6_in
theorem dX6_isRuling_0 : decode cX6_isRuling 0 = .ok (.iload_n 0, 1) := by decide +kernel
theorem dX6_isRuling_1 : decode cX6_isRuling 1 = .ok (.iconst 0, 1) := by decide +kernel
theorem dX6_isRuling_2 : decode cX6_isRuling 2 = .ok (.iconst 4, 1) := by decide +kernel
theorem dX6_isRuling_3 : decode cX6_isRuling 3 = .ok (.invokestatic 66, 3) := by decide +kernel
theorem dX6_isRuling_6 : decode cX6_isRuling 6 = .ok (.ireturn, 1) := by decide +kernel
set_option maxRecDepth 20000 in
theorem ggX6_facts_X6_in : GoodIn wsX6_facts wsX6_in := goodIn_r _ [9] (by decide +kernel) (by decide +kernel)
set_option maxRecDepth 20000 in
theorem gX6_facts_X6_in : GoodIn wsX6_facts (va_wsS RX6 66 yX6_in wsX6_in) := goodIn_app (goodIn_of _ (by decide +kernel)) ggX6_facts_X6_in
theorem dX6_facts_0 : decode cX6_facts 0 = .ok (.iload_n 1, 1) := by decide +kernel
theorem dX6_facts_1 : decode cX6_facts 1 = .ok (.iconst 1, 1) := by decide +kernel
theorem dX6_facts_2 : decode cX6_facts 2 = .ok (.bipush 7, 2) := by decide +kernel
theorem dX6_facts_4 : decode cX6_facts 4 = .ok (.invokestatic 66, 3) := by decide +kernel
theorem dX6_facts_7 : decode cX6_facts 7 = .ok (.ifCond .ne 6, 3) := by decide +kernel
theorem dX6_facts_10 : decode cX6_facts 10 = .ok (.bipush (-2), 2) := by decide +kernel
theorem dX6_facts_12 : decode cX6_facts 12 = .ok (.ireturn, 1) := by decide +kernel
theorem dX6_facts_13 : decode cX6_facts 13 = .ok (.aload_n 0, 1) := by decide +kernel
theorem dX6_facts_14 : decode cX6_facts 14 = .ok (.getfield 7, 3) := by decide +kernel
theorem dX6_facts_17 : decode cX6_facts 17 = .ok (.istore_n 2, 1) := by decide +kernel
theorem dX6_facts_18 : decode cX6_facts 18 = .ok (.aload_n 0, 1) := by decide +kernel
theorem dX6_facts_19 : decode cX6_facts 19 = .ok (.iload_n 1, 1) := by decide +kernel
theorem dX6_facts_20 : decode cX6_facts 20 = .ok (.putfield 7, 3) := by decide +kernel
theorem dX6_facts_23 : decode cX6_facts 23 = .ok (.iconst 0, 1) := by decide +kernel
theorem dX6_facts_24 : decode cX6_facts 24 = .ok (.istore_n 3, 1) := by decide +kernel
theorem dX6_facts_25 : decode cX6_facts 25 = .ok (.iload_n 3, 1) := by decide +kernel
theorem dX6_facts_26 : decode cX6_facts 26 = .ok (.bipush 7, 2) := by decide +kernel
theorem dX6_facts_28 : decode cX6_facts 28 = .ok (.if_icmp .ge 16, 3) := by decide +kernel
theorem dX6_facts_31 : decode cX6_facts 31 = .ok (.aload_n 0, 1) := by decide +kernel
theorem dX6_facts_32 : decode cX6_facts 32 = .ok (.getfield 13, 3) := by decide +kernel
theorem dX6_facts_35 : decode cX6_facts 35 = .ok (.iload_n 3, 1) := by decide +kernel
theorem dX6_facts_36 : decode cX6_facts 36 = .ok (.iconst 0, 1) := by decide +kernel
theorem dX6_facts_37 : decode cX6_facts 37 = .ok (.iastore, 1) := by decide +kernel
theorem dX6_facts_38 : decode cX6_facts 38 = .ok (.iinc 3 1, 3) := by decide +kernel
theorem dX6_facts_41 : decode cX6_facts 41 = .ok (.goto (-16), 3) := by decide +kernel
theorem dX6_facts_44 : decode cX6_facts 44 = .ok (.aload_n 0, 1) := by decide +kernel
theorem dX6_facts_45 : decode cX6_facts 45 = .ok (.iconst 0, 1) := by decide +kernel
theorem dX6_facts_46 : decode cX6_facts 46 = .ok (.putfield 70, 3) := by decide +kernel
theorem dX6_facts_49 : decode cX6_facts 49 = .ok (.aload_n 0, 1) := by decide +kernel
theorem dX6_facts_50 : decode cX6_facts 50 = .ok (.iconst 0, 1) := by decide +kernel
theorem dX6_facts_51 : decode cX6_facts 51 = .ok (.putfield 73, 3) := by decide +kernel
theorem dX6_facts_54 : decode cX6_facts 54 = .ok (.aload_n 0, 1) := by decide +kernel
theorem dX6_facts_55 : decode cX6_facts 55 = .ok (.iconst 0, 1) := by decide +kernel
theorem dX6_facts_56 : decode cX6_facts 56 = .ok (.putfield 76, 3) := by decide +kernel
theorem dX6_facts_59 : decode cX6_facts 59 = .ok (.iload_n 2, 1) := by decide +kernel
theorem dX6_facts_60 : decode cX6_facts 60 = .ok (.ireturn, 1) := by decide +kernel
set_option maxRecDepth 20000 in
theorem ggX6_barred_X6_isFact : GoodIn wsX6_barred wsX6_isFact := goodIn_r _ [6, 7, 8, 9, 5, 10, 11, 12, 13, 14, 15, 16, 17, 18, 19, 20, 21, 22, 23, 24, 25, 26, 27, 28, 29, 30, 31] (by decide +kernel) (by decide +kernel)
set_option maxRecDepth 20000 in
theorem gX6_barred_X6_isFact : GoodIn wsX6_barred (wsV RX6 79 RX6 yX6_isFact wsX6_isFact) := goodIn_app (goodIn_of _ (by decide +kernel)) ggX6_barred_X6_isFact
theorem dX6_barred_0 : decode cX6_barred 0 = .ok (.aload_n 0, 1) := by decide +kernel
theorem dX6_barred_1 : decode cX6_barred 1 = .ok (.iload_n 1, 1) := by decide +kernel
theorem dX6_barred_2 : decode cX6_barred 2 = .ok (.invokevirtual 79, 3) := by decide +kernel
theorem dX6_barred_5 : decode cX6_barred 5 = .ok (.ifCond .eq 16, 3) := by decide +kernel
theorem dX6_barred_8 : decode cX6_barred 8 = .ok (.aload_n 0, 1) := by decide +kernel
theorem dX6_barred_9 : decode cX6_barred 9 = .ok (.iload_n 2, 1) := by decide +kernel
theorem dX6_barred_10 : decode cX6_barred 10 = .ok (.invokevirtual 79, 3) := by decide +kernel
theorem dX6_barred_13 : decode cX6_barred 13 = .ok (.ifCond .eq 8, 3) := by decide +kernel
theorem dX6_barred_16 : decode cX6_barred 16 = .ok (.iload_n 1, 1) := by decide +kernel
theorem dX6_barred_17 : decode cX6_barred 17 = .ok (.iload_n 2, 1) := by decide +kernel
theorem dX6_barred_18 : decode cX6_barred 18 = .ok (.if_icmp .ne 5, 3) := by decide +kernel
theorem dX6_barred_21 : decode cX6_barred 21 = .ok (.iconst (-1), 1) := by decide +kernel
theorem dX6_barred_22 : decode cX6_barred 22 = .ok (.ireturn, 1) := by decide +kernel
theorem dX6_barred_23 : decode cX6_barred 23 = .ok (.aload_n 0, 1) := by decide +kernel
theorem dX6_barred_24 : decode cX6_barred 24 = .ok (.getfield 13, 3) := by decide +kernel
theorem dX6_barred_27 : decode cX6_barred 27 = .ok (.iload_n 1, 1) := by decide +kernel
theorem dX6_barred_28 : decode cX6_barred 28 = .ok (.iaload, 1) := by decide +kernel
theorem dX6_barred_29 : decode cX6_barred 29 = .ok (.iload_n 2, 1) := by decide +kernel
theorem dX6_barred_30 : decode cX6_barred 30 = .ok (.ishr, 1) := by decide +kernel
theorem dX6_barred_31 : decode cX6_barred 31 = .ok (.iconst 1, 1) := by decide +kernel
theorem dX6_barred_32 : decode cX6_barred 32 = .ok (.iand, 1) := by decide +kernel
theorem dX6_barred_33 : decode cX6_barred 33 = .ok (.istore 4, 2) := by decide +kernel
theorem dX6_barred_35 : decode cX6_barred 35 = .ok (.aload_n 0, 1) := by decide +kernel
theorem dX6_barred_36 : decode cX6_barred 36 = .ok (.getfield 13, 3) := by decide +kernel
theorem dX6_barred_39 : decode cX6_barred 39 = .ok (.iload_n 1, 1) := by decide +kernel
theorem dX6_barred_40 : decode cX6_barred 40 = .ok (.iload_n 3, 1) := by decide +kernel
theorem dX6_barred_41 : decode cX6_barred 41 = .ok (.ifCond .eq 16, 3) := by decide +kernel
theorem dX6_barred_44 : decode cX6_barred 44 = .ok (.aload_n 0, 1) := by decide +kernel
theorem dX6_barred_45 : decode cX6_barred 45 = .ok (.getfield 13, 3) := by decide +kernel
theorem dX6_barred_48 : decode cX6_barred 48 = .ok (.iload_n 1, 1) := by decide +kernel
theorem dX6_barred_49 : decode cX6_barred 49 = .ok (.iaload, 1) := by decide +kernel
theorem dX6_barred_50 : decode cX6_barred 50 = .ok (.iconst 1, 1) := by decide +kernel
theorem dX6_barred_51 : decode cX6_barred 51 = .ok (.iload_n 2, 1) := by decide +kernel
theorem dX6_barred_52 : decode cX6_barred 52 = .ok (.ishl, 1) := by decide +kernel
theorem dX6_barred_53 : decode cX6_barred 53 = .ok (.ior, 1) := by decide +kernel
theorem dX6_barred_54 : decode cX6_barred 54 = .ok (.goto 15, 3) := by decide +kernel
theorem dX6_barred_57 : decode cX6_barred 57 = .ok (.aload_n 0, 1) := by decide +kernel
theorem dX6_barred_58 : decode cX6_barred 58 = .ok (.getfield 13, 3) := by decide +kernel
theorem dX6_barred_61 : decode cX6_barred 61 = .ok (.iload_n 1, 1) := by decide +kernel
theorem dX6_barred_62 : decode cX6_barred 62 = .ok (.iaload, 1) := by decide +kernel
theorem dX6_barred_63 : decode cX6_barred 63 = .ok (.iconst 1, 1) := by decide +kernel
theorem dX6_barred_64 : decode cX6_barred 64 = .ok (.iload_n 2, 1) := by decide +kernel
theorem dX6_barred_65 : decode cX6_barred 65 = .ok (.ishl, 1) := by decide +kernel
theorem dX6_barred_66 : decode cX6_barred 66 = .ok (.iconst (-1), 1) := by decide +kernel
theorem dX6_barred_67 : decode cX6_barred 67 = .ok (.ixor, 1) := by decide +kernel
theorem dX6_barred_68 : decode cX6_barred 68 = .ok (.iand, 1) := by decide +kernel
theorem dX6_barred_69 : decode cX6_barred 69 = .ok (.iastore, 1) := by decide +kernel
theorem dX6_barred_70 : decode cX6_barred 70 = .ok (.aload_n 0, 1) := by decide +kernel
theorem dX6_barred_71 : decode cX6_barred 71 = .ok (.getfield 13, 3) := by decide +kernel
theorem dX6_barred_74 : decode cX6_barred 74 = .ok (.iload_n 2, 1) := by decide +kernel
theorem dX6_barred_75 : decode cX6_barred 75 = .ok (.iload_n 3, 1) := by decide +kernel
theorem dX6_barred_76 : decode cX6_barred 76 = .ok (.ifCond .eq 16, 3) := by decide +kernel
theorem dX6_barred_79 : decode cX6_barred 79 = .ok (.aload_n 0, 1) := by decide +kernel
theorem dX6_barred_80 : decode cX6_barred 80 = .ok (.getfield 13, 3) := by decide +kernel
theorem dX6_barred_83 : decode cX6_barred 83 = .ok (.iload_n 2, 1) := by decide +kernel
theorem dX6_barred_84 : decode cX6_barred 84 = .ok (.iaload, 1) := by decide +kernel
theorem dX6_barred_85 : decode cX6_barred 85 = .ok (.iconst 1, 1) := by decide +kernel
theorem dX6_barred_86 : decode cX6_barred 86 = .ok (.iload_n 1, 1) := by decide +kernel
theorem dX6_barred_87 : decode cX6_barred 87 = .ok (.ishl, 1) := by decide +kernel
theorem dX6_barred_88 : decode cX6_barred 88 = .ok (.ior, 1) := by decide +kernel
theorem dX6_barred_89 : decode cX6_barred 89 = .ok (.goto 15, 3) := by decide +kernel
theorem dX6_barred_92 : decode cX6_barred 92 = .ok (.aload_n 0, 1) := by decide +kernel
theorem dX6_barred_93 : decode cX6_barred 93 = .ok (.getfield 13, 3) := by decide +kernel
theorem dX6_barred_96 : decode cX6_barred 96 = .ok (.iload_n 2, 1) := by decide +kernel
theorem dX6_barred_97 : decode cX6_barred 97 = .ok (.iaload, 1) := by decide +kernel
theorem dX6_barred_98 : decode cX6_barred 98 = .ok (.iconst 1, 1) := by decide +kernel
theorem dX6_barred_99 : decode cX6_barred 99 = .ok (.iload_n 1, 1) := by decide +kernel
theorem dX6_barred_100 : decode cX6_barred 100 = .ok (.ishl, 1) := by decide +kernel
theorem dX6_barred_101 : decode cX6_barred 101 = .ok (.iconst (-1), 1) := by decide +kernel
theorem dX6_barred_102 : decode cX6_barred 102 = .ok (.ixor, 1) := by decide +kernel
theorem dX6_barred_103 : decode cX6_barred 103 = .ok (.iand, 1) := by decide +kernel
theorem dX6_barred_104 : decode cX6_barred 104 = .ok (.iastore, 1) := by decide +kernel
theorem dX6_barred_105 : decode cX6_barred 105 = .ok (.iload 4, 2) := by decide +kernel
theorem dX6_barred_107 : decode cX6_barred 107 = .ok (.ireturn, 1) := by decide +kernel
set_option maxRecDepth 20000 in
theorem ggX6_isKind_X6_allFacts : GoodIn wsX6_isKind wsX6_allFacts := goodIn_r _ [7, 1, 11, 12, 13, 14, 15, 16, 17, 18, 19, 20, 21, 22, 23, 24, 25, 26, 27, 28, 29, 30, 31] (by decide +kernel) (by decide +kernel)
set_option maxRecDepth 20000 in
theorem gX6_isKind_X6_allFacts : GoodIn wsX6_isKind (wsV RX6 83 RX6 yX6_allFacts wsX6_allFacts) := goodIn_app (goodIn_of _ (by decide +kernel)) ggX6_isKind_X6_allFacts
set_option maxRecDepth 20000 in
theorem ggX6_isKind_X6_in : GoodIn wsX6_isKind wsX6_in := goodIn_r _ [10] (by decide +kernel) (by decide +kernel)
set_option maxRecDepth 20000 in
theorem gX6_isKind_X6_in : GoodIn wsX6_isKind (va_wsS RX6 66 yX6_in wsX6_in) := goodIn_app (goodIn_of _ (by decide +kernel)) ggX6_isKind_X6_in
theorem dX6_isKind_0 : decode cX6_isKind 0 = .ok (.iload_n 1, 1) := by decide +kernel
theorem dX6_isKind_1 : decode cX6_isKind 1 = .ok (.iconst 0, 1) := by decide +kernel
theorem dX6_isKind_2 : decode cX6_isKind 2 = .ok (.aload_n 0, 1) := by decide +kernel
theorem dX6_isKind_3 : decode cX6_isKind 3 = .ok (.invokevirtual 83, 3) := by decide +kernel
theorem dX6_isKind_6 : decode cX6_isKind 6 = .ok (.invokestatic 66, 3) := by decide +kernel
theorem dX6_isKind_9 : decode cX6_isKind 9 = .ok (.istore_n 2, 1) := by decide +kernel
theorem dX6_isKind_10 : decode cX6_isKind 10 = .ok (.iconst 0, 1) := by decide +kernel
theorem dX6_isKind_11 : decode cX6_isKind 11 = .ok (.istore_n 3, 1) := by decide +kernel
theorem dX6_isKind_12 : decode cX6_isKind 12 = .ok (.iload_n 3, 1) := by decide +kernel
theorem dX6_isKind_13 : decode cX6_isKind 13 = .ok (.aload_n 0, 1) := by decide +kernel
theorem dX6_isKind_14 : decode cX6_isKind 14 = .ok (.getfield 7, 3) := by decide +kernel
theorem dX6_isKind_17 : decode cX6_isKind 17 = .ok (.if_icmp .ge 38, 3) := by decide +kernel
theorem dX6_isKind_20 : decode cX6_isKind 20 = .ok (.iload_n 2, 1) := by decide +kernel
theorem dX6_isKind_21 : decode cX6_isKind 21 = .ok (.ifCond .eq 34, 3) := by decide +kernel
theorem dX6_isKind_24 : decode cX6_isKind 24 = .ok (.iload_n 1, 1) := by decide +kernel
theorem dX6_isKind_25 : decode cX6_isKind 25 = .ok (.iload_n 3, 1) := by decide +kernel
theorem dX6_isKind_26 : decode cX6_isKind 26 = .ok (.ishr, 1) := by decide +kernel
theorem dX6_isKind_27 : decode cX6_isKind 27 = .ok (.iconst 1, 1) := by decide +kernel
theorem dX6_isKind_28 : decode cX6_isKind 28 = .ok (.iand, 1) := by decide +kernel
theorem dX6_isKind_29 : decode cX6_isKind 29 = .ok (.ifCond .eq 14, 3) := by decide +kernel
theorem dX6_isKind_32 : decode cX6_isKind 32 = .ok (.aload_n 0, 1) := by decide +kernel
theorem dX6_isKind_33 : decode cX6_isKind 33 = .ok (.getfield 13, 3) := by decide +kernel
theorem dX6_isKind_36 : decode cX6_isKind 36 = .ok (.iload_n 3, 1) := by decide +kernel
theorem dX6_isKind_37 : decode cX6_isKind 37 = .ok (.iaload, 1) := by decide +kernel
theorem dX6_isKind_38 : decode cX6_isKind 38 = .ok (.iload_n 1, 1) := by decide +kernel
theorem dX6_isKind_39 : decode cX6_isKind 39 = .ok (.iand, 1) := by decide +kernel
theorem dX6_isKind_40 : decode cX6_isKind 40 = .ok (.ifCond .ne 7, 3) := by decide +kernel
theorem dX6_isKind_43 : decode cX6_isKind 43 = .ok (.iconst 1, 1) := by decide +kernel
theorem dX6_isKind_44 : decode cX6_isKind 44 = .ok (.goto 4, 3) := by decide +kernel
theorem dX6_isKind_47 : decode cX6_isKind 47 = .ok (.iconst 0, 1) := by decide +kernel
theorem dX6_isKind_48 : decode cX6_isKind 48 = .ok (.istore_n 2, 1) := by decide +kernel
theorem dX6_isKind_49 : decode cX6_isKind 49 = .ok (.iinc 3 1, 3) := by decide +kernel
theorem dX6_isKind_52 : decode cX6_isKind 52 = .ok (.goto (-40), 3) := by decide +kernel
theorem dX6_isKind_55 : decode cX6_isKind 55 = .ok (.iload_n 2, 1) := by decide +kernel
theorem dX6_isKind_56 : decode cX6_isKind 56 = .ok (.ireturn, 1) := by decide +kernel
set_option maxRecDepth 20000 in
theorem ggX6_line_X6_allFacts : GoodIn wsX6_line wsX6_allFacts := goodIn_r _ [11, 12, 19, 20, 21, 22, 23, 24, 25, 26, 27, 28, 29, 30, 31, 32, 33, 34, 35, 36, 37, 38, 39] (by decide +kernel) (by decide +kernel)
set_option maxRecDepth 20000 in
theorem gX6_line_X6_allFacts : GoodIn wsX6_line (wsV RX6 83 RX6 yX6_allFacts wsX6_allFacts) := goodIn_app (goodIn_of _ (by decide +kernel)) ggX6_line_X6_allFacts
set_option maxRecDepth 20000 in
theorem ggX6_line_X6_in : GoodIn wsX6_line wsX6_in := goodIn_r _ [15] (by decide +kernel) (by decide +kernel)
set_option maxRecDepth 20000 in
theorem gX6_line_X6_in : GoodIn wsX6_line (va_wsS RX6 66 yX6_in wsX6_in) := goodIn_app (goodIn_of _ (by decide +kernel)) ggX6_line_X6_in
set_option maxRecDepth 20000 in
theorem ggX6_line_X6_isRuling : GoodIn wsX6_line wsX6_isRuling := goodIn_r _ [18, 13, 14, 10, 15] (by decide +kernel) (by decide +kernel)
set_option maxRecDepth 20000 in
theorem gX6_line_X6_isRuling : GoodIn wsX6_line (va_wsS RX6 87 yX6_isRuling wsX6_isRuling) := goodIn_app (goodIn_of _ (by decide +kernel)) ggX6_line_X6_isRuling
theorem dX6_line_0 : decode cX6_line 0 = .ok (.iload_n 1, 1) := by decide +kernel
theorem dX6_line_1 : decode cX6_line 1 = .ok (.iconst 0, 1) := by decide +kernel
theorem dX6_line_2 : decode cX6_line 2 = .ok (.aload_n 0, 1) := by decide +kernel
theorem dX6_line_3 : decode cX6_line 3 = .ok (.invokevirtual 83, 3) := by decide +kernel
theorem dX6_line_6 : decode cX6_line 6 = .ok (.invokestatic 66, 3) := by decide +kernel
theorem dX6_line_9 : decode cX6_line 9 = .ok (.ifCond .eq 28, 3) := by decide +kernel
theorem dX6_line_12 : decode cX6_line 12 = .ok (.iload_n 2, 1) := by decide +kernel
theorem dX6_line_13 : decode cX6_line 13 = .ok (.iconst 0, 1) := by decide +kernel
theorem dX6_line_14 : decode cX6_line 14 = .ok (.aload_n 0, 1) := by decide +kernel
theorem dX6_line_15 : decode cX6_line 15 = .ok (.invokevirtual 83, 3) := by decide +kernel
theorem dX6_line_18 : decode cX6_line 18 = .ok (.invokestatic 66, 3) := by decide +kernel
theorem dX6_line_21 : decode cX6_line 21 = .ok (.ifCond .eq 16, 3) := by decide +kernel
theorem dX6_line_24 : decode cX6_line 24 = .ok (.iload_n 1, 1) := by decide +kernel
theorem dX6_line_25 : decode cX6_line 25 = .ok (.iload_n 2, 1) := by decide +kernel
theorem dX6_line_26 : decode cX6_line 26 = .ok (.iand, 1) := by decide +kernel
theorem dX6_line_27 : decode cX6_line 27 = .ok (.ifCond .ne 10, 3) := by decide +kernel
theorem dX6_line_30 : decode cX6_line 30 = .ok (.iload_n 3, 1) := by decide +kernel
theorem dX6_line_31 : decode cX6_line 31 = .ok (.invokestatic 87, 3) := by decide +kernel
theorem dX6_line_34 : decode cX6_line 34 = .ok (.ifCond .ne 6, 3) := by decide +kernel
theorem dX6_line_37 : decode cX6_line 37 = .ok (.bipush (-2), 2) := by decide +kernel
theorem dX6_line_39 : decode cX6_line 39 = .ok (.ireturn, 1) := by decide +kernel
theorem dX6_line_40 : decode cX6_line 40 = .ok (.aload_n 0, 1) := by decide +kernel
theorem dX6_line_41 : decode cX6_line 41 = .ok (.getfield 70, 3) := by decide +kernel
theorem dX6_line_44 : decode cX6_line 44 = .ok (.bipush 12, 2) := by decide +kernel
theorem dX6_line_46 : decode cX6_line 46 = .ok (.if_icmp .ne 6, 3) := by decide +kernel
theorem dX6_line_49 : decode cX6_line 49 = .ok (.bipush (-4), 2) := by decide +kernel
theorem dX6_line_51 : decode cX6_line 51 = .ok (.ireturn, 1) := by decide +kernel
theorem dX6_line_52 : decode cX6_line 52 = .ok (.aload_n 0, 1) := by decide +kernel
theorem dX6_line_53 : decode cX6_line 53 = .ok (.getfield 17, 3) := by decide +kernel
theorem dX6_line_56 : decode cX6_line 56 = .ok (.aload_n 0, 1) := by decide +kernel
theorem dX6_line_57 : decode cX6_line 57 = .ok (.getfield 70, 3) := by decide +kernel
theorem dX6_line_60 : decode cX6_line 60 = .ok (.iload_n 1, 1) := by decide +kernel
theorem dX6_line_61 : decode cX6_line 61 = .ok (.iastore, 1) := by decide +kernel
theorem dX6_line_62 : decode cX6_line 62 = .ok (.aload_n 0, 1) := by decide +kernel
theorem dX6_line_63 : decode cX6_line 63 = .ok (.getfield 20, 3) := by decide +kernel
theorem dX6_line_66 : decode cX6_line 66 = .ok (.aload_n 0, 1) := by decide +kernel
theorem dX6_line_67 : decode cX6_line 67 = .ok (.getfield 70, 3) := by decide +kernel
theorem dX6_line_70 : decode cX6_line 70 = .ok (.iload_n 2, 1) := by decide +kernel
theorem dX6_line_71 : decode cX6_line 71 = .ok (.iastore, 1) := by decide +kernel
theorem dX6_line_72 : decode cX6_line 72 = .ok (.aload_n 0, 1) := by decide +kernel
theorem dX6_line_73 : decode cX6_line 73 = .ok (.getfield 23, 3) := by decide +kernel
theorem dX6_line_76 : decode cX6_line 76 = .ok (.aload_n 0, 1) := by decide +kernel
theorem dX6_line_77 : decode cX6_line 77 = .ok (.getfield 70, 3) := by decide +kernel
theorem dX6_line_80 : decode cX6_line 80 = .ok (.iload_n 3, 1) := by decide +kernel
theorem dX6_line_81 : decode cX6_line 81 = .ok (.iastore, 1) := by decide +kernel
theorem dX6_line_82 : decode cX6_line 82 = .ok (.aload_n 0, 1) := by decide +kernel
theorem dX6_line_83 : decode cX6_line 83 = .ok (.getfield 26, 3) := by decide +kernel
theorem dX6_line_86 : decode cX6_line 86 = .ok (.aload_n 0, 1) := by decide +kernel
theorem dX6_line_87 : decode cX6_line 87 = .ok (.getfield 70, 3) := by decide +kernel
theorem dX6_line_90 : decode cX6_line 90 = .ok (.iconst 0, 1) := by decide +kernel
theorem dX6_line_91 : decode cX6_line 91 = .ok (.bastore, 1) := by decide +kernel
theorem dX6_line_92 : decode cX6_line 92 = .ok (.aload_n 0, 1) := by decide +kernel
theorem dX6_line_93 : decode cX6_line 93 = .ok (.getfield 30, 3) := by decide +kernel
theorem dX6_line_96 : decode cX6_line 96 = .ok (.aload_n 0, 1) := by decide +kernel
theorem dX6_line_97 : decode cX6_line 97 = .ok (.getfield 70, 3) := by decide +kernel
theorem dX6_line_100 : decode cX6_line 100 = .ok (.iconst 0, 1) := by decide +kernel
theorem dX6_line_101 : decode cX6_line 101 = .ok (.iastore, 1) := by decide +kernel
theorem dX6_line_102 : decode cX6_line 102 = .ok (.aload_n 0, 1) := by decide +kernel
theorem dX6_line_103 : decode cX6_line 103 = .ok (.dup, 1) := by decide +kernel
theorem dX6_line_104 : decode cX6_line 104 = .ok (.getfield 70, 3) := by decide +kernel
theorem dX6_line_107 : decode cX6_line 107 = .ok (.iconst 1, 1) := by decide +kernel
theorem dX6_line_108 : decode cX6_line 108 = .ok (.iadd, 1) := by decide +kernel
theorem dX6_line_109 : decode cX6_line 109 = .ok (.putfield 70, 3) := by decide +kernel
theorem dX6_line_112 : decode cX6_line 112 = .ok (.aload_n 0, 1) := by decide +kernel
theorem dX6_line_113 : decode cX6_line 113 = .ok (.getfield 70, 3) := by decide +kernel
theorem dX6_line_116 : decode cX6_line 116 = .ok (.iconst 1, 1) := by decide +kernel
theorem dX6_line_117 : decode cX6_line 117 = .ok (.isub, 1) := by decide +kernel
theorem dX6_line_118 : decode cX6_line 118 = .ok (.ireturn, 1) := by decide +kernel
theorem dX6_bits_0 : decode cX6_bits 0 = .ok (.iconst 0, 1) := by decide +kernel
theorem dX6_bits_1 : decode cX6_bits 1 = .ok (.istore_n 1, 1) := by decide +kernel
theorem dX6_bits_2 : decode cX6_bits 2 = .ok (.iconst 0, 1) := by decide +kernel
theorem dX6_bits_3 : decode cX6_bits 3 = .ok (.istore_n 2, 1) := by decide +kernel
theorem dX6_bits_4 : decode cX6_bits 4 = .ok (.iload_n 2, 1) := by decide +kernel
theorem dX6_bits_5 : decode cX6_bits 5 = .ok (.bipush 12, 2) := by decide +kernel
theorem dX6_bits_7 : decode cX6_bits 7 = .ok (.if_icmp .ge 17, 3) := by decide +kernel
theorem dX6_bits_10 : decode cX6_bits 10 = .ok (.iload_n 1, 1) := by decide +kernel
theorem dX6_bits_11 : decode cX6_bits 11 = .ok (.iload_n 0, 1) := by decide +kernel
theorem dX6_bits_12 : decode cX6_bits 12 = .ok (.iload_n 2, 1) := by decide +kernel
theorem dX6_bits_13 : decode cX6_bits 13 = .ok (.ishr, 1) := by decide +kernel
theorem dX6_bits_14 : decode cX6_bits 14 = .ok (.iconst 1, 1) := by decide +kernel
theorem dX6_bits_15 : decode cX6_bits 15 = .ok (.iand, 1) := by decide +kernel
theorem dX6_bits_16 : decode cX6_bits 16 = .ok (.iadd, 1) := by decide +kernel
theorem dX6_bits_17 : decode cX6_bits 17 = .ok (.istore_n 1, 1) := by decide +kernel
theorem dX6_bits_18 : decode cX6_bits 18 = .ok (.iinc 2 1, 3) := by decide +kernel
theorem dX6_bits_21 : decode cX6_bits 21 = .ok (.goto (-17), 3) := by decide +kernel
theorem dX6_bits_24 : decode cX6_bits 24 = .ok (.iload_n 1, 1) := by decide +kernel
theorem dX6_bits_25 : decode cX6_bits 25 = .ok (.ireturn, 1) := by decide +kernel
set_option maxRecDepth 20000 in
theorem ggX6_except_X6_isLine : GoodIn wsX6_except wsX6_isLine := goodIn_r _ [6, 7, 8, 9, 5, 10, 14, 15, 16, 17, 18, 19, 20, 21, 22, 23, 24, 25, 26, 27, 28, 29, 30, 31, 32, 33, 34] (by decide +kernel) (by decide +kernel)
set_option maxRecDepth 20000 in
theorem gX6_except_X6_isLine : GoodIn wsX6_except (wsV RX6 90 RX6 yX6_isLine wsX6_isLine) := goodIn_app (goodIn_of _ (by decide +kernel)) ggX6_except_X6_isLine
set_option maxRecDepth 20000 in
theorem ggX6_except_X6_bits : GoodIn wsX6_except wsX6_bits := goodIn_r _ [13] (by decide +kernel) (by decide +kernel)
set_option maxRecDepth 20000 in
theorem gX6_except_X6_bits : GoodIn wsX6_except (va_wsS RX6 93 yX6_bits wsX6_bits) := goodIn_app (goodIn_of _ (by decide +kernel)) ggX6_except_X6_bits
theorem dX6_except_0 : decode cX6_except 0 = .ok (.aload_n 0, 1) := by decide +kernel
theorem dX6_except_1 : decode cX6_except 1 = .ok (.iload_n 1, 1) := by decide +kernel
theorem dX6_except_2 : decode cX6_except 2 = .ok (.invokevirtual 90, 3) := by decide +kernel
theorem dX6_except_5 : decode cX6_except 5 = .ok (.ifCond .eq 11, 3) := by decide +kernel
theorem dX6_except_8 : decode cX6_except 8 = .ok (.aload_n 0, 1) := by decide +kernel
theorem dX6_except_9 : decode cX6_except 9 = .ok (.iload_n 2, 1) := by decide +kernel
theorem dX6_except_10 : decode cX6_except 10 = .ok (.invokevirtual 90, 3) := by decide +kernel
theorem dX6_except_13 : decode cX6_except 13 = .ok (.ifCond .ne 5, 3) := by decide +kernel
theorem dX6_except_16 : decode cX6_except 16 = .ok (.iconst (-1), 1) := by decide +kernel
theorem dX6_except_17 : decode cX6_except 17 = .ok (.ireturn, 1) := by decide +kernel
theorem dX6_except_18 : decode cX6_except 18 = .ok (.iload_n 1, 1) := by decide +kernel
theorem dX6_except_19 : decode cX6_except 19 = .ok (.iload_n 2, 1) := by decide +kernel
theorem dX6_except_20 : decode cX6_except 20 = .ok (.if_icmp .le 17, 3) := by decide +kernel
theorem dX6_except_23 : decode cX6_except 23 = .ok (.aload_n 0, 1) := by decide +kernel
theorem dX6_except_24 : decode cX6_except 24 = .ok (.getfield 30, 3) := by decide +kernel
theorem dX6_except_27 : decode cX6_except 27 = .ok (.iload_n 2, 1) := by decide +kernel
theorem dX6_except_28 : decode cX6_except 28 = .ok (.iaload, 1) := by decide +kernel
theorem dX6_except_29 : decode cX6_except 29 = .ok (.iload_n 1, 1) := by decide +kernel
theorem dX6_except_30 : decode cX6_except 30 = .ok (.ishr, 1) := by decide +kernel
theorem dX6_except_31 : decode cX6_except 31 = .ok (.iconst 1, 1) := by decide +kernel
theorem dX6_except_32 : decode cX6_except 32 = .ok (.iand, 1) := by decide +kernel
theorem dX6_except_33 : decode cX6_except 33 = .ok (.iconst 1, 1) := by decide +kernel
theorem dX6_except_34 : decode cX6_except 34 = .ok (.if_icmp .ne 6, 3) := by decide +kernel
theorem dX6_except_37 : decode cX6_except 37 = .ok (.bipush (-5), 2) := by decide +kernel
theorem dX6_except_39 : decode cX6_except 39 = .ok (.ireturn, 1) := by decide +kernel
theorem dX6_except_40 : decode cX6_except 40 = .ok (.aload_n 0, 1) := by decide +kernel
theorem dX6_except_41 : decode cX6_except 41 = .ok (.getfield 30, 3) := by decide +kernel
theorem dX6_except_44 : decode cX6_except 44 = .ok (.iload_n 2, 1) := by decide +kernel
theorem dX6_except_45 : decode cX6_except 45 = .ok (.dup2, 1) := by decide +kernel
theorem dX6_except_46 : decode cX6_except 46 = .ok (.iaload, 1) := by decide +kernel
theorem dX6_except_47 : decode cX6_except 47 = .ok (.iconst 1, 1) := by decide +kernel
theorem dX6_except_48 : decode cX6_except 48 = .ok (.iload_n 1, 1) := by decide +kernel
theorem dX6_except_49 : decode cX6_except 49 = .ok (.ishl, 1) := by decide +kernel
theorem dX6_except_50 : decode cX6_except 50 = .ok (.ior, 1) := by decide +kernel
theorem dX6_except_51 : decode cX6_except 51 = .ok (.iastore, 1) := by decide +kernel
theorem dX6_except_52 : decode cX6_except 52 = .ok (.aload_n 0, 1) := by decide +kernel
theorem dX6_except_53 : decode cX6_except 53 = .ok (.getfield 30, 3) := by decide +kernel
theorem dX6_except_56 : decode cX6_except 56 = .ok (.iload_n 2, 1) := by decide +kernel
theorem dX6_except_57 : decode cX6_except 57 = .ok (.iaload, 1) := by decide +kernel
theorem dX6_except_58 : decode cX6_except 58 = .ok (.invokestatic 93, 3) := by decide +kernel
theorem dX6_except_61 : decode cX6_except 61 = .ok (.ireturn, 1) := by decide +kernel
set_option maxRecDepth 20000 in
theorem ggX6_repeal_X6_isLine : GoodIn wsX6_repeal wsX6_isLine := goodIn_r _ [6, 7, 8, 9, 5, 10, 11, 12, 13, 14, 15, 16, 17, 18, 19, 20, 21, 22, 23, 24, 25, 26, 27, 28, 29, 30, 31] (by decide +kernel) (by decide +kernel)
set_option maxRecDepth 20000 in
theorem gX6_repeal_X6_isLine : GoodIn wsX6_repeal (wsV RX6 90 RX6 yX6_isLine wsX6_isLine) := goodIn_app (goodIn_of _ (by decide +kernel)) ggX6_repeal_X6_isLine
theorem dX6_repeal_0 : decode cX6_repeal 0 = .ok (.aload_n 0, 1) := by decide +kernel
theorem dX6_repeal_1 : decode cX6_repeal 1 = .ok (.iload_n 1, 1) := by decide +kernel
theorem dX6_repeal_2 : decode cX6_repeal 2 = .ok (.invokevirtual 90, 3) := by decide +kernel
theorem dX6_repeal_5 : decode cX6_repeal 5 = .ok (.ifCond .ne 5, 3) := by decide +kernel
theorem dX6_repeal_8 : decode cX6_repeal 8 = .ok (.iconst (-1), 1) := by decide +kernel
theorem dX6_repeal_9 : decode cX6_repeal 9 = .ok (.ireturn, 1) := by decide +kernel
theorem dX6_repeal_10 : decode cX6_repeal 10 = .ok (.aload_n 0, 1) := by decide +kernel
theorem dX6_repeal_11 : decode cX6_repeal 11 = .ok (.getfield 26, 3) := by decide +kernel
theorem dX6_repeal_14 : decode cX6_repeal 14 = .ok (.iload_n 1, 1) := by decide +kernel
theorem dX6_repeal_15 : decode cX6_repeal 15 = .ok (.baload, 1) := by decide +kernel
theorem dX6_repeal_16 : decode cX6_repeal 16 = .ok (.ifCond .eq 7, 3) := by decide +kernel
theorem dX6_repeal_19 : decode cX6_repeal 19 = .ok (.iconst 1, 1) := by decide +kernel
theorem dX6_repeal_20 : decode cX6_repeal 20 = .ok (.goto 4, 3) := by decide +kernel
theorem dX6_repeal_23 : decode cX6_repeal 23 = .ok (.iconst 0, 1) := by decide +kernel
theorem dX6_repeal_24 : decode cX6_repeal 24 = .ok (.istore_n 3, 1) := by decide +kernel
theorem dX6_repeal_25 : decode cX6_repeal 25 = .ok (.aload_n 0, 1) := by decide +kernel
theorem dX6_repeal_26 : decode cX6_repeal 26 = .ok (.getfield 26, 3) := by decide +kernel
theorem dX6_repeal_29 : decode cX6_repeal 29 = .ok (.iload_n 1, 1) := by decide +kernel
theorem dX6_repeal_30 : decode cX6_repeal 30 = .ok (.iload_n 2, 1) := by decide +kernel
theorem dX6_repeal_31 : decode cX6_repeal 31 = .ok (.bastore, 1) := by decide +kernel
theorem dX6_repeal_32 : decode cX6_repeal 32 = .ok (.iload_n 3, 1) := by decide +kernel
theorem dX6_repeal_33 : decode cX6_repeal 33 = .ok (.ireturn, 1) := by decide +kernel
theorem dX6_namedBy_0 : decode cX6_namedBy 0 = .ok (.iconst 1, 1) := by decide +kernel
theorem dX6_namedBy_1 : decode cX6_namedBy 1 = .ok (.iload_n 1, 1) := by decide +kernel
theorem dX6_namedBy_2 : decode cX6_namedBy 2 = .ok (.ishl, 1) := by decide +kernel
theorem dX6_namedBy_3 : decode cX6_namedBy 3 = .ok (.istore_n 2, 1) := by decide +kernel
theorem dX6_namedBy_4 : decode cX6_namedBy 4 = .ok (.iconst 0, 1) := by decide +kernel
theorem dX6_namedBy_5 : decode cX6_namedBy 5 = .ok (.istore_n 3, 1) := by decide +kernel
theorem dX6_namedBy_6 : decode cX6_namedBy 6 = .ok (.iload_n 1, 1) := by decide +kernel
theorem dX6_namedBy_7 : decode cX6_namedBy 7 = .ok (.istore 4, 2) := by decide +kernel
theorem dX6_namedBy_9 : decode cX6_namedBy 9 = .ok (.iload 4, 2) := by decide +kernel
theorem dX6_namedBy_11 : decode cX6_namedBy 11 = .ok (.aload_n 0, 1) := by decide +kernel
theorem dX6_namedBy_12 : decode cX6_namedBy 12 = .ok (.getfield 70, 3) := by decide +kernel
theorem dX6_namedBy_15 : decode cX6_namedBy 15 = .ok (.if_icmp .ge 63, 3) := by decide +kernel
theorem dX6_namedBy_18 : decode cX6_namedBy 18 = .ok (.iload_n 2, 1) := by decide +kernel
theorem dX6_namedBy_19 : decode cX6_namedBy 19 = .ok (.iload 4, 2) := by decide +kernel
theorem dX6_namedBy_21 : decode cX6_namedBy 21 = .ok (.ishr, 1) := by decide +kernel
theorem dX6_namedBy_22 : decode cX6_namedBy 22 = .ok (.iconst 1, 1) := by decide +kernel
theorem dX6_namedBy_23 : decode cX6_namedBy 23 = .ok (.iand, 1) := by decide +kernel
theorem dX6_namedBy_24 : decode cX6_namedBy 24 = .ok (.iconst 1, 1) := by decide +kernel
theorem dX6_namedBy_25 : decode cX6_namedBy 25 = .ok (.if_icmp .ne 47, 3) := by decide +kernel
theorem dX6_namedBy_28 : decode cX6_namedBy 28 = .ok (.iload 4, 2) := by decide +kernel
theorem dX6_namedBy_30 : decode cX6_namedBy 30 = .ok (.iload_n 1, 1) := by decide +kernel
theorem dX6_namedBy_31 : decode cX6_namedBy 31 = .ok (.if_icmp .eq 13, 3) := by decide +kernel
theorem dX6_namedBy_34 : decode cX6_namedBy 34 = .ok (.aload_n 0, 1) := by decide +kernel
theorem dX6_namedBy_35 : decode cX6_namedBy 35 = .ok (.getfield 26, 3) := by decide +kernel
theorem dX6_namedBy_38 : decode cX6_namedBy 38 = .ok (.iload 4, 2) := by decide +kernel
theorem dX6_namedBy_40 : decode cX6_namedBy 40 = .ok (.baload, 1) := by decide +kernel
theorem dX6_namedBy_41 : decode cX6_namedBy 41 = .ok (.ifCond .ne 31, 3) := by decide +kernel
theorem dX6_namedBy_44 : decode cX6_namedBy 44 = .ok (.iload_n 3, 1) := by decide +kernel
theorem dX6_namedBy_45 : decode cX6_namedBy 45 = .ok (.aload_n 0, 1) := by decide +kernel
theorem dX6_namedBy_46 : decode cX6_namedBy 46 = .ok (.getfield 17, 3) := by decide +kernel
theorem dX6_namedBy_49 : decode cX6_namedBy 49 = .ok (.iload 4, 2) := by decide +kernel
theorem dX6_namedBy_51 : decode cX6_namedBy 51 = .ok (.iaload, 1) := by decide +kernel
theorem dX6_namedBy_52 : decode cX6_namedBy 52 = .ok (.aload_n 0, 1) := by decide +kernel
theorem dX6_namedBy_53 : decode cX6_namedBy 53 = .ok (.getfield 20, 3) := by decide +kernel
theorem dX6_namedBy_56 : decode cX6_namedBy 56 = .ok (.iload 4, 2) := by decide +kernel
theorem dX6_namedBy_58 : decode cX6_namedBy 58 = .ok (.iaload, 1) := by decide +kernel
theorem dX6_namedBy_59 : decode cX6_namedBy 59 = .ok (.ior, 1) := by decide +kernel
theorem dX6_namedBy_60 : decode cX6_namedBy 60 = .ok (.ior, 1) := by decide +kernel
theorem dX6_namedBy_61 : decode cX6_namedBy 61 = .ok (.istore_n 3, 1) := by decide +kernel
theorem dX6_namedBy_62 : decode cX6_namedBy 62 = .ok (.iload_n 2, 1) := by decide +kernel
theorem dX6_namedBy_63 : decode cX6_namedBy 63 = .ok (.aload_n 0, 1) := by decide +kernel
theorem dX6_namedBy_64 : decode cX6_namedBy 64 = .ok (.getfield 30, 3) := by decide +kernel
theorem dX6_namedBy_67 : decode cX6_namedBy 67 = .ok (.iload 4, 2) := by decide +kernel
theorem dX6_namedBy_69 : decode cX6_namedBy 69 = .ok (.iaload, 1) := by decide +kernel
theorem dX6_namedBy_70 : decode cX6_namedBy 70 = .ok (.ior, 1) := by decide +kernel
theorem dX6_namedBy_71 : decode cX6_namedBy 71 = .ok (.istore_n 2, 1) := by decide +kernel
theorem dX6_namedBy_72 : decode cX6_namedBy 72 = .ok (.iinc 4 1, 3) := by decide +kernel
theorem dX6_namedBy_75 : decode cX6_namedBy 75 = .ok (.goto (-66), 3) := by decide +kernel
theorem dX6_namedBy_78 : decode cX6_namedBy 78 = .ok (.iload_n 3, 1) := by decide +kernel
theorem dX6_namedBy_79 : decode cX6_namedBy 79 = .ok (.ireturn, 1) := by decide +kernel
set_option maxRecDepth 20000 in
theorem ggX6_about_X6_isLine : GoodIn wsX6_about wsX6_isLine := goodIn_r _ [10, 11, 12, 13, 9, 14, 19, 20, 21, 22, 23, 24, 25, 26, 27, 28, 29, 30, 31, 32, 33, 34, 35, 36, 37, 38, 39] (by decide +kernel) (by decide +kernel)
set_option maxRecDepth 20000 in
theorem gX6_about_X6_isLine : GoodIn wsX6_about (wsV RX6 90 RX6 yX6_isLine wsX6_isLine) := goodIn_app (goodIn_of _ (by decide +kernel)) ggX6_about_X6_isLine
set_option maxRecDepth 20000 in
theorem ggX6_about_X6_namedBy : GoodIn wsX6_about wsX6_namedBy := goodIn_r _ [18, 11, 4, 1, 2, 5, 19, 20, 21, 22, 23, 24, 25, 26, 27, 28, 29, 30, 31, 32, 33, 34, 35, 36, 37, 38, 39] (by decide +kernel) (by decide +kernel)
set_option maxRecDepth 20000 in
theorem gX6_about_X6_namedBy : GoodIn wsX6_about (wsV RX6 97 RX6 yX6_namedBy wsX6_namedBy) := goodIn_app (goodIn_of _ (by decide +kernel)) ggX6_about_X6_namedBy
theorem dX6_about_0 : decode cX6_about 0 = .ok (.aload_n 0, 1) := by decide +kernel
theorem dX6_about_1 : decode cX6_about 1 = .ok (.iload_n 1, 1) := by decide +kernel
theorem dX6_about_2 : decode cX6_about 2 = .ok (.invokevirtual 90, 3) := by decide +kernel
theorem dX6_about_5 : decode cX6_about 5 = .ok (.ifCond .ne 5, 3) := by decide +kernel
theorem dX6_about_8 : decode cX6_about 8 = .ok (.iconst (-1), 1) := by decide +kernel
theorem dX6_about_9 : decode cX6_about 9 = .ok (.ireturn, 1) := by decide +kernel
theorem dX6_about_10 : decode cX6_about 10 = .ok (.iload_n 2, 1) := by decide +kernel
theorem dX6_about_11 : decode cX6_about 11 = .ok (.tableswitch 86 0 5 #[37, 44, 51, 58, 73, 80], 37) := by decide +kernel
theorem dX6_about_48 : decode cX6_about 48 = .ok (.aload_n 0, 1) := by decide +kernel
theorem dX6_about_49 : decode cX6_about 49 = .ok (.getfield 17, 3) := by decide +kernel
theorem dX6_about_52 : decode cX6_about 52 = .ok (.iload_n 1, 1) := by decide +kernel
theorem dX6_about_53 : decode cX6_about 53 = .ok (.iaload, 1) := by decide +kernel
theorem dX6_about_54 : decode cX6_about 54 = .ok (.ireturn, 1) := by decide +kernel
theorem dX6_about_55 : decode cX6_about 55 = .ok (.aload_n 0, 1) := by decide +kernel
theorem dX6_about_56 : decode cX6_about 56 = .ok (.getfield 20, 3) := by decide +kernel
theorem dX6_about_59 : decode cX6_about 59 = .ok (.iload_n 1, 1) := by decide +kernel
theorem dX6_about_60 : decode cX6_about 60 = .ok (.iaload, 1) := by decide +kernel
theorem dX6_about_61 : decode cX6_about 61 = .ok (.ireturn, 1) := by decide +kernel
theorem dX6_about_62 : decode cX6_about 62 = .ok (.aload_n 0, 1) := by decide +kernel
theorem dX6_about_63 : decode cX6_about 63 = .ok (.getfield 23, 3) := by decide +kernel
theorem dX6_about_66 : decode cX6_about 66 = .ok (.iload_n 1, 1) := by decide +kernel
theorem dX6_about_67 : decode cX6_about 67 = .ok (.iaload, 1) := by decide +kernel
theorem dX6_about_68 : decode cX6_about 68 = .ok (.ireturn, 1) := by decide +kernel
theorem dX6_about_69 : decode cX6_about 69 = .ok (.aload_n 0, 1) := by decide +kernel
theorem dX6_about_70 : decode cX6_about 70 = .ok (.getfield 26, 3) := by decide +kernel
theorem dX6_about_73 : decode cX6_about 73 = .ok (.iload_n 1, 1) := by decide +kernel
theorem dX6_about_74 : decode cX6_about 74 = .ok (.baload, 1) := by decide +kernel
theorem dX6_about_75 : decode cX6_about 75 = .ok (.ifCond .eq 7, 3) := by decide +kernel
theorem dX6_about_78 : decode cX6_about 78 = .ok (.iconst 1, 1) := by decide +kernel
theorem dX6_about_79 : decode cX6_about 79 = .ok (.goto 4, 3) := by decide +kernel
theorem dX6_about_82 : decode cX6_about 82 = .ok (.iconst 0, 1) := by decide +kernel
theorem dX6_about_83 : decode cX6_about 83 = .ok (.ireturn, 1) := by decide +kernel
theorem dX6_about_84 : decode cX6_about 84 = .ok (.aload_n 0, 1) := by decide +kernel
theorem dX6_about_85 : decode cX6_about 85 = .ok (.getfield 30, 3) := by decide +kernel
theorem dX6_about_88 : decode cX6_about 88 = .ok (.iload_n 1, 1) := by decide +kernel
theorem dX6_about_89 : decode cX6_about 89 = .ok (.iaload, 1) := by decide +kernel
theorem dX6_about_90 : decode cX6_about 90 = .ok (.ireturn, 1) := by decide +kernel
theorem dX6_about_91 : decode cX6_about 91 = .ok (.aload_n 0, 1) := by decide +kernel
theorem dX6_about_92 : decode cX6_about 92 = .ok (.iload_n 1, 1) := by decide +kernel
theorem dX6_about_93 : decode cX6_about 93 = .ok (.invokevirtual 97, 3) := by decide +kernel
theorem dX6_about_96 : decode cX6_about 96 = .ok (.ireturn, 1) := by decide +kernel
theorem dX6_about_97 : decode cX6_about 97 = .ok (.bipush (-2), 2) := by decide +kernel
theorem dX6_about_99 : decode cX6_about 99 = .ok (.ireturn, 1) := by decide +kernel
theorem dX6_holding_0 : decode cX6_holding 0 = .ok (.iconst 0, 1) := by decide +kernel
theorem dX6_holding_1 : decode cX6_holding 1 = .ok (.istore_n 2, 1) := by decide +kernel
theorem dX6_holding_2 : decode cX6_holding 2 = .ok (.aload_n 0, 1) := by decide +kernel
theorem dX6_holding_3 : decode cX6_holding 3 = .ok (.getfield 70, 3) := by decide +kernel
theorem dX6_holding_6 : decode cX6_holding 6 = .ok (.iconst 1, 1) := by decide +kernel
theorem dX6_holding_7 : decode cX6_holding 7 = .ok (.isub, 1) := by decide +kernel
theorem dX6_holding_8 : decode cX6_holding 8 = .ok (.istore_n 3, 1) := by decide +kernel
theorem dX6_holding_9 : decode cX6_holding 9 = .ok (.iload_n 3, 1) := by decide +kernel
theorem dX6_holding_10 : decode cX6_holding 10 = .ok (.ifCond .lt 75, 3) := by decide +kernel
theorem dX6_holding_13 : decode cX6_holding 13 = .ok (.aload_n 0, 1) := by decide +kernel
theorem dX6_holding_14 : decode cX6_holding 14 = .ok (.getfield 26, 3) := by decide +kernel
theorem dX6_holding_17 : decode cX6_holding 17 = .ok (.iload_n 3, 1) := by decide +kernel
theorem dX6_holding_18 : decode cX6_holding 18 = .ok (.baload, 1) := by decide +kernel
theorem dX6_holding_19 : decode cX6_holding 19 = .ok (.ifCond .ne 42, 3) := by decide +kernel
theorem dX6_holding_22 : decode cX6_holding 22 = .ok (.aload_n 0, 1) := by decide +kernel
theorem dX6_holding_23 : decode cX6_holding 23 = .ok (.getfield 17, 3) := by decide +kernel
theorem dX6_holding_26 : decode cX6_holding 26 = .ok (.iload_n 3, 1) := by decide +kernel
theorem dX6_holding_27 : decode cX6_holding 27 = .ok (.iaload, 1) := by decide +kernel
theorem dX6_holding_28 : decode cX6_holding 28 = .ok (.iload_n 1, 1) := by decide +kernel
theorem dX6_holding_29 : decode cX6_holding 29 = .ok (.iconst (-1), 1) := by decide +kernel
theorem dX6_holding_30 : decode cX6_holding 30 = .ok (.ixor, 1) := by decide +kernel
theorem dX6_holding_31 : decode cX6_holding 31 = .ok (.iand, 1) := by decide +kernel
theorem dX6_holding_32 : decode cX6_holding 32 = .ok (.ifCond .ne 29, 3) := by decide +kernel
theorem dX6_holding_35 : decode cX6_holding 35 = .ok (.aload_n 0, 1) := by decide +kernel
theorem dX6_holding_36 : decode cX6_holding 36 = .ok (.getfield 20, 3) := by decide +kernel
theorem dX6_holding_39 : decode cX6_holding 39 = .ok (.iload_n 3, 1) := by decide +kernel
theorem dX6_holding_40 : decode cX6_holding 40 = .ok (.iaload, 1) := by decide +kernel
theorem dX6_holding_41 : decode cX6_holding 41 = .ok (.iload_n 1, 1) := by decide +kernel
theorem dX6_holding_42 : decode cX6_holding 42 = .ok (.iand, 1) := by decide +kernel
theorem dX6_holding_43 : decode cX6_holding 43 = .ok (.ifCond .ne 18, 3) := by decide +kernel
theorem dX6_holding_46 : decode cX6_holding 46 = .ok (.aload_n 0, 1) := by decide +kernel
theorem dX6_holding_47 : decode cX6_holding 47 = .ok (.getfield 30, 3) := by decide +kernel
theorem dX6_holding_50 : decode cX6_holding 50 = .ok (.iload_n 3, 1) := by decide +kernel
theorem dX6_holding_51 : decode cX6_holding 51 = .ok (.iaload, 1) := by decide +kernel
theorem dX6_holding_52 : decode cX6_holding 52 = .ok (.iload_n 2, 1) := by decide +kernel
theorem dX6_holding_53 : decode cX6_holding 53 = .ok (.iand, 1) := by decide +kernel
theorem dX6_holding_54 : decode cX6_holding 54 = .ok (.ifCond .ne 7, 3) := by decide +kernel
theorem dX6_holding_57 : decode cX6_holding 57 = .ok (.iconst 1, 1) := by decide +kernel
theorem dX6_holding_58 : decode cX6_holding 58 = .ok (.goto 4, 3) := by decide +kernel
theorem dX6_holding_61 : decode cX6_holding 61 = .ok (.iconst 0, 1) := by decide +kernel
theorem dX6_holding_62 : decode cX6_holding 62 = .ok (.istore 4, 2) := by decide +kernel
theorem dX6_holding_64 : decode cX6_holding 64 = .ok (.iload_n 2, 1) := by decide +kernel
theorem dX6_holding_65 : decode cX6_holding 65 = .ok (.iload 4, 2) := by decide +kernel
theorem dX6_holding_67 : decode cX6_holding 67 = .ok (.ifCond .eq 9, 3) := by decide +kernel
theorem dX6_holding_70 : decode cX6_holding 70 = .ok (.iconst 1, 1) := by decide +kernel
theorem dX6_holding_71 : decode cX6_holding 71 = .ok (.iload_n 3, 1) := by decide +kernel
theorem dX6_holding_72 : decode cX6_holding 72 = .ok (.ishl, 1) := by decide +kernel
theorem dX6_holding_73 : decode cX6_holding 73 = .ok (.goto 4, 3) := by decide +kernel
theorem dX6_holding_76 : decode cX6_holding 76 = .ok (.iconst 0, 1) := by decide +kernel
theorem dX6_holding_77 : decode cX6_holding 77 = .ok (.ior, 1) := by decide +kernel
theorem dX6_holding_78 : decode cX6_holding 78 = .ok (.istore_n 2, 1) := by decide +kernel
theorem dX6_holding_79 : decode cX6_holding 79 = .ok (.iinc 3 (-1), 3) := by decide +kernel
theorem dX6_holding_82 : decode cX6_holding 82 = .ok (.goto (-73), 3) := by decide +kernel
theorem dX6_holding_85 : decode cX6_holding 85 = .ok (.iload_n 2, 1) := by decide +kernel
theorem dX6_holding_86 : decode cX6_holding 86 = .ok (.ireturn, 1) := by decide +kernel
set_option maxRecDepth 20000 in
theorem ggX6_holds_X6_isLine : GoodIn wsX6_holds wsX6_isLine := goodIn_r _ [5, 6, 7, 8, 4, 9, 28, 29, 30, 31, 32, 33, 34, 35, 36, 37, 38, 39, 40, 41, 42, 43, 44, 45, 46, 47, 48] (by decide +kernel) (by decide +kernel)
set_option maxRecDepth 20000 in
theorem gX6_holds_X6_isLine : GoodIn wsX6_holds (wsV RX6 90 RX6 yX6_isLine wsX6_isLine) := goodIn_app (goodIn_of _ (by decide +kernel)) ggX6_holds_X6_isLine
set_option maxRecDepth 20000 in
theorem ggX6_holds_X6_isKind : GoodIn wsX6_holds wsX6_isKind := goodIn_r _ [13, 14, 15, 16, 17, 18, 4, 19, 7, 8, 9, 28, 29, 30, 31, 32, 33, 34, 35, 36, 37, 38, 39, 40, 41, 42, 43, 44, 45, 46, 47, 48] (by decide +kernel) (by decide +kernel)
set_option maxRecDepth 20000 in
theorem gX6_holds_X6_isKind : GoodIn wsX6_holds (wsV RX6 100 RX6 yX6_isKind wsX6_isKind) := goodIn_app (goodIn_of _ (by decide +kernel)) ggX6_holds_X6_isKind
set_option maxRecDepth 20000 in
theorem ggX6_holds_X6_holding : GoodIn wsX6_holds wsX6_holding := goodIn_r _ [23, 6, 24, 25, 26, 27, 28, 29, 30, 31, 32, 33, 34, 35, 36, 37, 38, 39, 40, 41, 42, 43, 44, 45, 46, 47, 48] (by decide +kernel) (by decide +kernel)
set_option maxRecDepth 20000 in
theorem gX6_holds_X6_holding : GoodIn wsX6_holds (wsV RX6 103 RX6 yX6_holding wsX6_holding) := goodIn_app (goodIn_of _ (by decide +kernel)) ggX6_holds_X6_holding
theorem dX6_holds_0 : decode cX6_holds 0 = .ok (.aload_n 0, 1) := by decide +kernel
theorem dX6_holds_1 : decode cX6_holds 1 = .ok (.iload_n 1, 1) := by decide +kernel
theorem dX6_holds_2 : decode cX6_holds 2 = .ok (.invokevirtual 90, 3) := by decide +kernel
theorem dX6_holds_5 : decode cX6_holds 5 = .ok (.ifCond .ne 5, 3) := by decide +kernel
theorem dX6_holds_8 : decode cX6_holds 8 = .ok (.iconst (-1), 1) := by decide +kernel
theorem dX6_holds_9 : decode cX6_holds 9 = .ok (.ireturn, 1) := by decide +kernel
theorem dX6_holds_10 : decode cX6_holds 10 = .ok (.aload_n 0, 1) := by decide +kernel
theorem dX6_holds_11 : decode cX6_holds 11 = .ok (.iload_n 2, 1) := by decide +kernel
theorem dX6_holds_12 : decode cX6_holds 12 = .ok (.invokevirtual 100, 3) := by decide +kernel
theorem dX6_holds_15 : decode cX6_holds 15 = .ok (.ifCond .eq 15, 3) := by decide +kernel
theorem dX6_holds_18 : decode cX6_holds 18 = .ok (.aload_n 0, 1) := by decide +kernel
theorem dX6_holds_19 : decode cX6_holds 19 = .ok (.iload_n 2, 1) := by decide +kernel
theorem dX6_holds_20 : decode cX6_holds 20 = .ok (.invokevirtual 103, 3) := by decide +kernel
theorem dX6_holds_23 : decode cX6_holds 23 = .ok (.iload_n 1, 1) := by decide +kernel
theorem dX6_holds_24 : decode cX6_holds 24 = .ok (.ishr, 1) := by decide +kernel
theorem dX6_holds_25 : decode cX6_holds 25 = .ok (.iconst 1, 1) := by decide +kernel
theorem dX6_holds_26 : decode cX6_holds 26 = .ok (.iand, 1) := by decide +kernel
theorem dX6_holds_27 : decode cX6_holds 27 = .ok (.goto 5, 3) := by decide +kernel
theorem dX6_holds_30 : decode cX6_holds 30 = .ok (.bipush (-2), 2) := by decide +kernel
theorem dX6_holds_32 : decode cX6_holds 32 = .ok (.ireturn, 1) := by decide +kernel
set_option maxRecDepth 20000 in
theorem ggX6_lineFor_X6_holding : GoodIn wsX6_lineFor wsX6_holding := goodIn_r _ [7, 1, 8, 9, 10, 2, 11, 12, 13, 14, 15, 16, 17, 18, 19, 20, 21, 22, 23, 24, 25, 26, 27, 28, 29, 30, 31] (by decide +kernel) (by decide +kernel)
set_option maxRecDepth 20000 in
theorem gX6_lineFor_X6_holding : GoodIn wsX6_lineFor (wsV RX6 103 RX6 yX6_holding wsX6_holding) := goodIn_app (goodIn_of _ (by decide +kernel)) ggX6_lineFor_X6_holding
theorem dX6_lineFor_0 : decode cX6_lineFor 0 = .ok (.iconst 0, 1) := by decide +kernel
theorem dX6_lineFor_1 : decode cX6_lineFor 1 = .ok (.istore_n 2, 1) := by decide +kernel
theorem dX6_lineFor_2 : decode cX6_lineFor 2 = .ok (.iconst 0, 1) := by decide +kernel
theorem dX6_lineFor_3 : decode cX6_lineFor 3 = .ok (.istore_n 3, 1) := by decide +kernel
theorem dX6_lineFor_4 : decode cX6_lineFor 4 = .ok (.iload_n 3, 1) := by decide +kernel
theorem dX6_lineFor_5 : decode cX6_lineFor 5 = .ok (.aload_n 0, 1) := by decide +kernel
theorem dX6_lineFor_6 : decode cX6_lineFor 6 = .ok (.getfield 70, 3) := by decide +kernel
theorem dX6_lineFor_9 : decode cX6_lineFor 9 = .ok (.if_icmp .ge 18, 3) := by decide +kernel
theorem dX6_lineFor_12 : decode cX6_lineFor 12 = .ok (.iload_n 2, 1) := by decide +kernel
theorem dX6_lineFor_13 : decode cX6_lineFor 13 = .ok (.aload_n 0, 1) := by decide +kernel
theorem dX6_lineFor_14 : decode cX6_lineFor 14 = .ok (.getfield 30, 3) := by decide +kernel
theorem dX6_lineFor_17 : decode cX6_lineFor 17 = .ok (.iload_n 3, 1) := by decide +kernel
theorem dX6_lineFor_18 : decode cX6_lineFor 18 = .ok (.iaload, 1) := by decide +kernel
theorem dX6_lineFor_19 : decode cX6_lineFor 19 = .ok (.ior, 1) := by decide +kernel
theorem dX6_lineFor_20 : decode cX6_lineFor 20 = .ok (.istore_n 2, 1) := by decide +kernel
theorem dX6_lineFor_21 : decode cX6_lineFor 21 = .ok (.iinc 3 1, 3) := by decide +kernel
theorem dX6_lineFor_24 : decode cX6_lineFor 24 = .ok (.goto (-20), 3) := by decide +kernel
theorem dX6_lineFor_27 : decode cX6_lineFor 27 = .ok (.aload_n 0, 1) := by decide +kernel
theorem dX6_lineFor_28 : decode cX6_lineFor 28 = .ok (.iload_n 1, 1) := by decide +kernel
theorem dX6_lineFor_29 : decode cX6_lineFor 29 = .ok (.invokevirtual 103, 3) := by decide +kernel
theorem dX6_lineFor_32 : decode cX6_lineFor 32 = .ok (.iload_n 2, 1) := by decide +kernel
theorem dX6_lineFor_33 : decode cX6_lineFor 33 = .ok (.iconst (-1), 1) := by decide +kernel
theorem dX6_lineFor_34 : decode cX6_lineFor 34 = .ok (.ixor, 1) := by decide +kernel
theorem dX6_lineFor_35 : decode cX6_lineFor 35 = .ok (.iand, 1) := by decide +kernel
theorem dX6_lineFor_36 : decode cX6_lineFor 36 = .ok (.istore_n 3, 1) := by decide +kernel
theorem dX6_lineFor_37 : decode cX6_lineFor 37 = .ok (.iconst 0, 1) := by decide +kernel
theorem dX6_lineFor_38 : decode cX6_lineFor 38 = .ok (.istore 4, 2) := by decide +kernel
theorem dX6_lineFor_40 : decode cX6_lineFor 40 = .ok (.iload 4, 2) := by decide +kernel
theorem dX6_lineFor_42 : decode cX6_lineFor 42 = .ok (.aload_n 0, 1) := by decide +kernel
theorem dX6_lineFor_43 : decode cX6_lineFor 43 = .ok (.getfield 70, 3) := by decide +kernel
theorem dX6_lineFor_46 : decode cX6_lineFor 46 = .ok (.if_icmp .ge 22, 3) := by decide +kernel
theorem dX6_lineFor_49 : decode cX6_lineFor 49 = .ok (.iload_n 3, 1) := by decide +kernel
theorem dX6_lineFor_50 : decode cX6_lineFor 50 = .ok (.iload 4, 2) := by decide +kernel
theorem dX6_lineFor_52 : decode cX6_lineFor 52 = .ok (.ishr, 1) := by decide +kernel
theorem dX6_lineFor_53 : decode cX6_lineFor 53 = .ok (.iconst 1, 1) := by decide +kernel
theorem dX6_lineFor_54 : decode cX6_lineFor 54 = .ok (.iand, 1) := by decide +kernel
theorem dX6_lineFor_55 : decode cX6_lineFor 55 = .ok (.iconst 1, 1) := by decide +kernel
theorem dX6_lineFor_56 : decode cX6_lineFor 56 = .ok (.if_icmp .ne 6, 3) := by decide +kernel
theorem dX6_lineFor_59 : decode cX6_lineFor 59 = .ok (.iload 4, 2) := by decide +kernel
theorem dX6_lineFor_61 : decode cX6_lineFor 61 = .ok (.ireturn, 1) := by decide +kernel
theorem dX6_lineFor_62 : decode cX6_lineFor 62 = .ok (.iinc 4 1, 3) := by decide +kernel
theorem dX6_lineFor_65 : decode cX6_lineFor 65 = .ok (.goto (-25), 3) := by decide +kernel
theorem dX6_lineFor_68 : decode cX6_lineFor 68 = .ok (.bipush (-6), 2) := by decide +kernel
theorem dX6_lineFor_70 : decode cX6_lineFor 70 = .ok (.ireturn, 1) := by decide +kernel
set_option maxRecDepth 20000 in
theorem ggX6_rulingFor_X6_lineFor : GoodIn wsX6_rulingFor wsX6_lineFor := goodIn_r _ [6, 7, 8, 9, 10, 11, 5, 12, 13, 14, 15, 16, 17, 18, 19, 20, 21, 22, 23, 24, 25, 26, 27, 28, 29, 30, 31, 32, 33, 34, 35, 36] (by decide +kernel) (by decide +kernel)
set_option maxRecDepth 20000 in
theorem gX6_rulingFor_X6_lineFor : GoodIn wsX6_rulingFor (wsV RX6 106 RX6 yX6_lineFor wsX6_lineFor) := goodIn_app (goodIn_of _ (by decide +kernel)) ggX6_rulingFor_X6_lineFor
theorem dX6_rulingFor_0 : decode cX6_rulingFor 0 = .ok (.aload_n 0, 1) := by decide +kernel
theorem dX6_rulingFor_1 : decode cX6_rulingFor 1 = .ok (.iload_n 1, 1) := by decide +kernel
theorem dX6_rulingFor_2 : decode cX6_rulingFor 2 = .ok (.invokevirtual 106, 3) := by decide +kernel
theorem dX6_rulingFor_5 : decode cX6_rulingFor 5 = .ok (.istore_n 2, 1) := by decide +kernel
theorem dX6_rulingFor_6 : decode cX6_rulingFor 6 = .ok (.iload_n 2, 1) := by decide +kernel
theorem dX6_rulingFor_7 : decode cX6_rulingFor 7 = .ok (.ifCond .ge 7, 3) := by decide +kernel
theorem dX6_rulingFor_10 : decode cX6_rulingFor 10 = .ok (.iconst 0, 1) := by decide +kernel
theorem dX6_rulingFor_11 : decode cX6_rulingFor 11 = .ok (.goto 9, 3) := by decide +kernel
theorem dX6_rulingFor_14 : decode cX6_rulingFor 14 = .ok (.aload_n 0, 1) := by decide +kernel
theorem dX6_rulingFor_15 : decode cX6_rulingFor 15 = .ok (.getfield 23, 3) := by decide +kernel
theorem dX6_rulingFor_18 : decode cX6_rulingFor 18 = .ok (.iload_n 2, 1) := by decide +kernel
theorem dX6_rulingFor_19 : decode cX6_rulingFor 19 = .ok (.iaload, 1) := by decide +kernel
theorem dX6_rulingFor_20 : decode cX6_rulingFor 20 = .ok (.ireturn, 1) := by decide +kernel
set_option maxRecDepth 20000 in
theorem ggX6_law_X6_isKind : GoodIn wsX6_law wsX6_isKind := goodIn_r _ [5, 6, 7, 8, 9, 10, 4, 11, 12, 13, 14, 33, 34, 35, 36, 37, 38, 39, 40, 41, 42, 43, 44, 45, 46, 47, 48, 49, 50, 51, 52, 53] (by decide +kernel) (by decide +kernel)
set_option maxRecDepth 20000 in
theorem gX6_law_X6_isKind : GoodIn wsX6_law (wsV RX6 100 RX6 yX6_isKind wsX6_isKind) := goodIn_app (goodIn_of _ (by decide +kernel)) ggX6_law_X6_isKind
set_option maxRecDepth 20000 in
theorem ggX6_law_X6_in : GoodIn wsX6_law wsX6_in := goodIn_r _ [14] (by decide +kernel) (by decide +kernel)
set_option maxRecDepth 20000 in
theorem gX6_law_X6_in : GoodIn wsX6_law (va_wsS RX6 66 yX6_in wsX6_in) := goodIn_app (goodIn_of _ (by decide +kernel)) ggX6_law_X6_in
set_option maxRecDepth 20000 in
theorem ggX6_law_X6_lineFor : GoodIn wsX6_law wsX6_lineFor := goodIn_r _ [18, 19, 20, 21, 22, 23, 4, 24, 25, 26, 27, 33, 34, 35, 36, 37, 38, 39, 40, 41, 42, 43, 44, 45, 46, 47, 48, 49, 50, 51, 52, 53] (by decide +kernel) (by decide +kernel)
set_option maxRecDepth 20000 in
theorem gX6_law_X6_lineFor : GoodIn wsX6_law (wsV RX6 106 RX6 yX6_lineFor wsX6_lineFor) := goodIn_app (goodIn_of _ (by decide +kernel)) ggX6_law_X6_lineFor
set_option maxRecDepth 20000 in
theorem ggX6_law_X6_rulingFor : GoodIn wsX6_law wsX6_rulingFor := goodIn_r _ [31, 32, 15, 16, 17, 4, 18, 19, 20, 21, 22, 23, 24, 25, 26, 27, 33, 34, 35, 36, 37, 38, 39, 40, 41, 42, 43, 44, 45, 46, 47, 48, 49, 50, 51, 52, 53] (by decide +kernel) (by decide +kernel)
set_option maxRecDepth 20000 in
theorem gX6_law_X6_rulingFor : GoodIn wsX6_law (wsV RX6 109 RX6 yX6_rulingFor wsX6_rulingFor) := goodIn_app (goodIn_of _ (by decide +kernel)) ggX6_law_X6_rulingFor
theorem dX6_law_0 : decode cX6_law 0 = .ok (.aload_n 0, 1) := by decide +kernel
theorem dX6_law_1 : decode cX6_law 1 = .ok (.iload_n 1, 1) := by decide +kernel
theorem dX6_law_2 : decode cX6_law 2 = .ok (.invokevirtual 100, 3) := by decide +kernel
theorem dX6_law_5 : decode cX6_law 5 = .ok (.ifCond .eq 12, 3) := by decide +kernel
theorem dX6_law_8 : decode cX6_law 8 = .ok (.iload_n 2, 1) := by decide +kernel
theorem dX6_law_9 : decode cX6_law 9 = .ok (.iconst 0, 1) := by decide +kernel
theorem dX6_law_10 : decode cX6_law 10 = .ok (.iconst 1, 1) := by decide +kernel
theorem dX6_law_11 : decode cX6_law 11 = .ok (.invokestatic 66, 3) := by decide +kernel
theorem dX6_law_14 : decode cX6_law 14 = .ok (.ifCond .ne 6, 3) := by decide +kernel
theorem dX6_law_17 : decode cX6_law 17 = .ok (.bipush (-2), 2) := by decide +kernel
theorem dX6_law_19 : decode cX6_law 19 = .ok (.ireturn, 1) := by decide +kernel
theorem dX6_law_20 : decode cX6_law 20 = .ok (.iload_n 2, 1) := by decide +kernel
theorem dX6_law_21 : decode cX6_law 21 = .ok (.ifCond .ne 11, 3) := by decide +kernel
theorem dX6_law_24 : decode cX6_law 24 = .ok (.aload_n 0, 1) := by decide +kernel
theorem dX6_law_25 : decode cX6_law 25 = .ok (.iload_n 1, 1) := by decide +kernel
theorem dX6_law_26 : decode cX6_law 26 = .ok (.invokevirtual 106, 3) := by decide +kernel
theorem dX6_law_29 : decode cX6_law 29 = .ok (.goto 8, 3) := by decide +kernel
theorem dX6_law_32 : decode cX6_law 32 = .ok (.aload_n 0, 1) := by decide +kernel
theorem dX6_law_33 : decode cX6_law 33 = .ok (.iload_n 1, 1) := by decide +kernel
theorem dX6_law_34 : decode cX6_law 34 = .ok (.invokevirtual 109, 3) := by decide +kernel
theorem dX6_law_37 : decode cX6_law 37 = .ok (.ireturn, 1) := by decide +kernel
set_option maxRecDepth 20000 in
theorem ggX6_open_X6_allFacts : GoodIn wsX6_open wsX6_allFacts := goodIn_r _ [5, 6, 28, 29, 30, 31, 32, 33, 34, 35, 36, 37, 38, 39, 40, 41, 42, 43, 44, 45, 46, 47, 48] (by decide +kernel) (by decide +kernel)
set_option maxRecDepth 20000 in
theorem gX6_open_X6_allFacts : GoodIn wsX6_open (wsV RX6 83 RX6 yX6_allFacts wsX6_allFacts) := goodIn_app (goodIn_of _ (by decide +kernel)) ggX6_open_X6_allFacts
set_option maxRecDepth 20000 in
theorem ggX6_open_X6_isKind : GoodIn wsX6_open wsX6_isKind := goodIn_r _ [10, 6, 11, 1, 2, 3, 4, 5, 12, 13, 14, 28, 29, 30, 31, 32, 33, 34, 35, 36, 37, 38, 39, 40, 41, 42, 43, 44, 45, 46, 47, 48] (by decide +kernel) (by decide +kernel)
set_option maxRecDepth 20000 in
theorem gX6_open_X6_isKind : GoodIn wsX6_open (wsV RX6 100 RX6 yX6_isKind wsX6_isKind) := goodIn_app (goodIn_of _ (by decide +kernel)) ggX6_open_X6_isKind
set_option maxRecDepth 20000 in
theorem ggX6_open_X6_lineFor : GoodIn wsX6_open wsX6_lineFor := goodIn_r _ [18, 19, 20, 21, 22, 23, 4, 24, 25, 26, 27, 28, 29, 30, 31, 32, 33, 34, 35, 36, 37, 38, 39, 40, 41, 42, 43, 44, 45, 46, 47, 48] (by decide +kernel) (by decide +kernel)
set_option maxRecDepth 20000 in
theorem gX6_open_X6_lineFor : GoodIn wsX6_open (wsV RX6 106 RX6 yX6_lineFor wsX6_lineFor) := goodIn_app (goodIn_of _ (by decide +kernel)) ggX6_open_X6_lineFor
theorem dX6_open_0 : decode cX6_open 0 = .ok (.iconst 0, 1) := by decide +kernel
theorem dX6_open_1 : decode cX6_open 1 = .ok (.istore_n 2, 1) := by decide +kernel
theorem dX6_open_2 : decode cX6_open 2 = .ok (.iconst 0, 1) := by decide +kernel
theorem dX6_open_3 : decode cX6_open 3 = .ok (.istore_n 3, 1) := by decide +kernel
theorem dX6_open_4 : decode cX6_open 4 = .ok (.iload_n 3, 1) := by decide +kernel
theorem dX6_open_5 : decode cX6_open 5 = .ok (.aload_n 0, 1) := by decide +kernel
theorem dX6_open_6 : decode cX6_open 6 = .ok (.invokevirtual 83, 3) := by decide +kernel
theorem dX6_open_9 : decode cX6_open 9 = .ok (.if_icmp .gt 35, 3) := by decide +kernel
theorem dX6_open_12 : decode cX6_open 12 = .ok (.aload_n 0, 1) := by decide +kernel
theorem dX6_open_13 : decode cX6_open 13 = .ok (.iload_n 3, 1) := by decide +kernel
theorem dX6_open_14 : decode cX6_open 14 = .ok (.invokevirtual 100, 3) := by decide +kernel
theorem dX6_open_17 : decode cX6_open 17 = .ok (.ifCond .eq 21, 3) := by decide +kernel
theorem dX6_open_20 : decode cX6_open 20 = .ok (.aload_n 0, 1) := by decide +kernel
theorem dX6_open_21 : decode cX6_open 21 = .ok (.iload_n 3, 1) := by decide +kernel
theorem dX6_open_22 : decode cX6_open 22 = .ok (.invokevirtual 106, 3) := by decide +kernel
theorem dX6_open_25 : decode cX6_open 25 = .ok (.ifCond .ge 13, 3) := by decide +kernel
theorem dX6_open_28 : decode cX6_open 28 = .ok (.iload_n 2, 1) := by decide +kernel
theorem dX6_open_29 : decode cX6_open 29 = .ok (.iload_n 1, 1) := by decide +kernel
theorem dX6_open_30 : decode cX6_open 30 = .ok (.if_icmp .ne 5, 3) := by decide +kernel
theorem dX6_open_33 : decode cX6_open 33 = .ok (.iload_n 3, 1) := by decide +kernel
theorem dX6_open_34 : decode cX6_open 34 = .ok (.ireturn, 1) := by decide +kernel
theorem dX6_open_35 : decode cX6_open 35 = .ok (.iinc 2 1, 3) := by decide +kernel
theorem dX6_open_38 : decode cX6_open 38 = .ok (.iinc 3 1, 3) := by decide +kernel
theorem dX6_open_41 : decode cX6_open 41 = .ok (.goto (-37), 3) := by decide +kernel
theorem dX6_open_44 : decode cX6_open 44 = .ok (.iload_n 1, 1) := by decide +kernel
theorem dX6_open_45 : decode cX6_open 45 = .ok (.iconst (-1), 1) := by decide +kernel
theorem dX6_open_46 : decode cX6_open 46 = .ok (.if_icmp .ne 7, 3) := by decide +kernel
theorem dX6_open_49 : decode cX6_open 49 = .ok (.iload_n 2, 1) := by decide +kernel
theorem dX6_open_50 : decode cX6_open 50 = .ok (.goto 5, 3) := by decide +kernel
theorem dX6_open_53 : decode cX6_open 53 = .ok (.bipush (-6), 2) := by decide +kernel
theorem dX6_open_55 : decode cX6_open 55 = .ok (.ireturn, 1) := by decide +kernel
set_option maxRecDepth 20000 in
theorem ggX6_bound_X6_rulingFor : GoodIn wsX6_bound wsX6_rulingFor := goodIn_r _ [5, 6, 7, 8, 9, 4, 10, 11, 12, 13, 14, 15, 16, 17, 18, 19, 20, 21, 22, 23, 24, 25, 26, 27, 28, 29, 30, 31, 32, 33, 34, 35, 36, 37, 38, 39, 40] (by decide +kernel) (by decide +kernel)
set_option maxRecDepth 20000 in
theorem gX6_bound_X6_rulingFor : GoodIn wsX6_bound (wsV RX6 109 RX6 yX6_rulingFor wsX6_rulingFor) := goodIn_app (goodIn_of _ (by decide +kernel)) ggX6_bound_X6_rulingFor
set_option maxRecDepth 20000 in
theorem ggX6_bound_X6_lineFor : GoodIn wsX6_bound wsX6_lineFor := goodIn_r _ [10, 11, 12, 13, 14, 15, 4, 16, 17, 18, 19, 20, 21, 22, 23, 24, 25, 26, 27, 28, 29, 30, 31, 32, 33, 34, 35, 36, 37, 38, 39, 40] (by decide +kernel) (by decide +kernel)
set_option maxRecDepth 20000 in
theorem gX6_bound_X6_lineFor : GoodIn wsX6_bound (wsV RX6 106 RX6 yX6_lineFor wsX6_lineFor) := goodIn_app (goodIn_of _ (by decide +kernel)) ggX6_bound_X6_lineFor
theorem dX6_bound_0 : decode cX6_bound 0 = .ok (.iconst 2, 1) := by decide +kernel
theorem dX6_bound_1 : decode cX6_bound 1 = .ok (.aload_n 0, 1) := by decide +kernel
theorem dX6_bound_2 : decode cX6_bound 2 = .ok (.iload_n 1, 1) := by decide +kernel
theorem dX6_bound_3 : decode cX6_bound 3 = .ok (.invokevirtual 109, 3) := by decide +kernel
theorem dX6_bound_6 : decode cX6_bound 6 = .ok (.imul, 1) := by decide +kernel
theorem dX6_bound_7 : decode cX6_bound 7 = .ok (.aload_n 0, 1) := by decide +kernel
theorem dX6_bound_8 : decode cX6_bound 8 = .ok (.iload_n 1, 1) := by decide +kernel
theorem dX6_bound_9 : decode cX6_bound 9 = .ok (.invokevirtual 106, 3) := by decide +kernel
theorem dX6_bound_12 : decode cX6_bound 12 = .ok (.ifCond .ge 7, 3) := by decide +kernel
theorem dX6_bound_15 : decode cX6_bound 15 = .ok (.iconst 0, 1) := by decide +kernel
theorem dX6_bound_16 : decode cX6_bound 16 = .ok (.goto 4, 3) := by decide +kernel
theorem dX6_bound_19 : decode cX6_bound 19 = .ok (.iconst 1, 1) := by decide +kernel
theorem dX6_bound_20 : decode cX6_bound 20 = .ok (.iadd, 1) := by decide +kernel
theorem dX6_bound_21 : decode cX6_bound 21 = .ok (.ireturn, 1) := by decide +kernel
set_option maxRecDepth 20000 in
theorem ggX6_turnedKinds_X6_allFacts : GoodIn wsX6_turnedKinds wsX6_allFacts := goodIn_r _ [7, 8, 38, 39, 40, 41, 42, 43, 44, 45, 46, 47, 48, 49, 50, 51, 52, 53, 54, 55, 56, 57, 58] (by decide +kernel) (by decide +kernel)
set_option maxRecDepth 20000 in
theorem gX6_turnedKinds_X6_allFacts : GoodIn wsX6_turnedKinds (wsV RX6 83 RX6 yX6_allFacts wsX6_allFacts) := goodIn_app (goodIn_of _ (by decide +kernel)) ggX6_turnedKinds_X6_allFacts
set_option maxRecDepth 20000 in
theorem ggX6_turnedKinds_X6_bound : GoodIn wsX6_turnedKinds wsX6_bound := goodIn_r _ [12, 13, 14, 15, 6, 16, 17, 18, 19, 20, 21, 22, 23, 24, 25, 26, 27, 2, 28, 29, 38, 39, 40, 41, 42, 43, 44, 45, 46, 47, 48, 49, 50, 51, 52, 53, 54, 55, 56, 57, 58] (by decide +kernel) (by decide +kernel)
set_option maxRecDepth 20000 in
theorem gX6_turnedKinds_X6_bound : GoodIn wsX6_turnedKinds (wsV RX6 112 RX6 yX6_bound wsX6_bound) := goodIn_app (goodIn_of _ (by decide +kernel)) ggX6_turnedKinds_X6_bound
set_option maxRecDepth 20000 in
theorem ggX6_turnedKinds_X6_isKind : GoodIn wsX6_turnedKinds wsX6_isKind := goodIn_r _ [33, 8, 34, 3, 4, 5, 6, 7, 35, 36, 37, 38, 39, 40, 41, 42, 43, 44, 45, 46, 47, 48, 49, 50, 51, 52, 53, 54, 55, 56, 57, 58] (by decide +kernel) (by decide +kernel)
set_option maxRecDepth 20000 in
theorem gX6_turnedKinds_X6_isKind : GoodIn wsX6_turnedKinds (wsV RX6 100 RX6 yX6_isKind wsX6_isKind) := goodIn_app (goodIn_of _ (by decide +kernel)) ggX6_turnedKinds_X6_isKind
theorem dX6_turnedKinds_0 : decode cX6_turnedKinds 0 = .ok (.iconst 0, 1) := by decide +kernel
theorem dX6_turnedKinds_1 : decode cX6_turnedKinds 1 = .ok (.istore_n 2, 1) := by decide +kernel
theorem dX6_turnedKinds_2 : decode cX6_turnedKinds 2 = .ok (.iconst 0, 1) := by decide +kernel
theorem dX6_turnedKinds_3 : decode cX6_turnedKinds 3 = .ok (.istore_n 3, 1) := by decide +kernel
theorem dX6_turnedKinds_4 : decode cX6_turnedKinds 4 = .ok (.iload_n 3, 1) := by decide +kernel
theorem dX6_turnedKinds_5 : decode cX6_turnedKinds 5 = .ok (.aload_n 0, 1) := by decide +kernel
theorem dX6_turnedKinds_6 : decode cX6_turnedKinds 6 = .ok (.invokevirtual 83, 3) := by decide +kernel
theorem dX6_turnedKinds_9 : decode cX6_turnedKinds 9 = .ok (.if_icmp .gt 20, 3) := by decide +kernel
theorem dX6_turnedKinds_12 : decode cX6_turnedKinds 12 = .ok (.aload_n 0, 1) := by decide +kernel
theorem dX6_turnedKinds_13 : decode cX6_turnedKinds 13 = .ok (.getfield 54, 3) := by decide +kernel
theorem dX6_turnedKinds_16 : decode cX6_turnedKinds 16 = .ok (.iload_n 3, 1) := by decide +kernel
theorem dX6_turnedKinds_17 : decode cX6_turnedKinds 17 = .ok (.aload_n 0, 1) := by decide +kernel
theorem dX6_turnedKinds_18 : decode cX6_turnedKinds 18 = .ok (.iload_n 3, 1) := by decide +kernel
theorem dX6_turnedKinds_19 : decode cX6_turnedKinds 19 = .ok (.invokevirtual 112, 3) := by decide +kernel
theorem dX6_turnedKinds_22 : decode cX6_turnedKinds 22 = .ok (.iastore, 1) := by decide +kernel
theorem dX6_turnedKinds_23 : decode cX6_turnedKinds 23 = .ok (.iinc 3 1, 3) := by decide +kernel
theorem dX6_turnedKinds_26 : decode cX6_turnedKinds 26 = .ok (.goto (-22), 3) := by decide +kernel
theorem dX6_turnedKinds_29 : decode cX6_turnedKinds 29 = .ok (.aload_n 0, 1) := by decide +kernel
theorem dX6_turnedKinds_30 : decode cX6_turnedKinds 30 = .ok (.getfield 26, 3) := by decide +kernel
theorem dX6_turnedKinds_33 : decode cX6_turnedKinds 33 = .ok (.iload_n 1, 1) := by decide +kernel
theorem dX6_turnedKinds_34 : decode cX6_turnedKinds 34 = .ok (.aload_n 0, 1) := by decide +kernel
theorem dX6_turnedKinds_35 : decode cX6_turnedKinds 35 = .ok (.getfield 26, 3) := by decide +kernel
theorem dX6_turnedKinds_38 : decode cX6_turnedKinds 38 = .ok (.iload_n 1, 1) := by decide +kernel
theorem dX6_turnedKinds_39 : decode cX6_turnedKinds 39 = .ok (.baload, 1) := by decide +kernel
theorem dX6_turnedKinds_40 : decode cX6_turnedKinds 40 = .ok (.ifCond .ne 7, 3) := by decide +kernel
theorem dX6_turnedKinds_43 : decode cX6_turnedKinds 43 = .ok (.iconst 1, 1) := by decide +kernel
theorem dX6_turnedKinds_44 : decode cX6_turnedKinds 44 = .ok (.goto 4, 3) := by decide +kernel
theorem dX6_turnedKinds_47 : decode cX6_turnedKinds 47 = .ok (.iconst 0, 1) := by decide +kernel
theorem dX6_turnedKinds_48 : decode cX6_turnedKinds 48 = .ok (.bastore, 1) := by decide +kernel
theorem dX6_turnedKinds_49 : decode cX6_turnedKinds 49 = .ok (.iconst 0, 1) := by decide +kernel
theorem dX6_turnedKinds_50 : decode cX6_turnedKinds 50 = .ok (.istore_n 3, 1) := by decide +kernel
theorem dX6_turnedKinds_51 : decode cX6_turnedKinds 51 = .ok (.iload_n 3, 1) := by decide +kernel
theorem dX6_turnedKinds_52 : decode cX6_turnedKinds 52 = .ok (.aload_n 0, 1) := by decide +kernel
theorem dX6_turnedKinds_53 : decode cX6_turnedKinds 53 = .ok (.invokevirtual 83, 3) := by decide +kernel
theorem dX6_turnedKinds_56 : decode cX6_turnedKinds 56 = .ok (.if_icmp .gt 55, 3) := by decide +kernel
theorem dX6_turnedKinds_59 : decode cX6_turnedKinds 59 = .ok (.aload_n 0, 1) := by decide +kernel
theorem dX6_turnedKinds_60 : decode cX6_turnedKinds 60 = .ok (.getfield 54, 3) := by decide +kernel
theorem dX6_turnedKinds_63 : decode cX6_turnedKinds 63 = .ok (.iload_n 3, 1) := by decide +kernel
theorem dX6_turnedKinds_64 : decode cX6_turnedKinds 64 = .ok (.aload_n 0, 1) := by decide +kernel
theorem dX6_turnedKinds_65 : decode cX6_turnedKinds 65 = .ok (.getfield 54, 3) := by decide +kernel
theorem dX6_turnedKinds_68 : decode cX6_turnedKinds 68 = .ok (.iload_n 3, 1) := by decide +kernel
theorem dX6_turnedKinds_69 : decode cX6_turnedKinds 69 = .ok (.iaload, 1) := by decide +kernel
theorem dX6_turnedKinds_70 : decode cX6_turnedKinds 70 = .ok (.aload_n 0, 1) := by decide +kernel
theorem dX6_turnedKinds_71 : decode cX6_turnedKinds 71 = .ok (.iload_n 3, 1) := by decide +kernel
theorem dX6_turnedKinds_72 : decode cX6_turnedKinds 72 = .ok (.invokevirtual 112, 3) := by decide +kernel
theorem dX6_turnedKinds_75 : decode cX6_turnedKinds 75 = .ok (.if_icmp .eq 7, 3) := by decide +kernel
theorem dX6_turnedKinds_78 : decode cX6_turnedKinds 78 = .ok (.iconst 1, 1) := by decide +kernel
theorem dX6_turnedKinds_79 : decode cX6_turnedKinds 79 = .ok (.goto 4, 3) := by decide +kernel
theorem dX6_turnedKinds_82 : decode cX6_turnedKinds 82 = .ok (.iconst 0, 1) := by decide +kernel
theorem dX6_turnedKinds_83 : decode cX6_turnedKinds 83 = .ok (.iastore, 1) := by decide +kernel
theorem dX6_turnedKinds_84 : decode cX6_turnedKinds 84 = .ok (.iload_n 2, 1) := by decide +kernel
theorem dX6_turnedKinds_85 : decode cX6_turnedKinds 85 = .ok (.aload_n 0, 1) := by decide +kernel
theorem dX6_turnedKinds_86 : decode cX6_turnedKinds 86 = .ok (.iload_n 3, 1) := by decide +kernel
theorem dX6_turnedKinds_87 : decode cX6_turnedKinds 87 = .ok (.invokevirtual 100, 3) := by decide +kernel
theorem dX6_turnedKinds_90 : decode cX6_turnedKinds 90 = .ok (.ifCond .eq 12, 3) := by decide +kernel
theorem dX6_turnedKinds_93 : decode cX6_turnedKinds 93 = .ok (.aload_n 0, 1) := by decide +kernel
theorem dX6_turnedKinds_94 : decode cX6_turnedKinds 94 = .ok (.getfield 54, 3) := by decide +kernel
theorem dX6_turnedKinds_97 : decode cX6_turnedKinds 97 = .ok (.iload_n 3, 1) := by decide +kernel
theorem dX6_turnedKinds_98 : decode cX6_turnedKinds 98 = .ok (.iaload, 1) := by decide +kernel
theorem dX6_turnedKinds_99 : decode cX6_turnedKinds 99 = .ok (.goto 4, 3) := by decide +kernel
theorem dX6_turnedKinds_102 : decode cX6_turnedKinds 102 = .ok (.iconst 0, 1) := by decide +kernel
theorem dX6_turnedKinds_103 : decode cX6_turnedKinds 103 = .ok (.iadd, 1) := by decide +kernel
theorem dX6_turnedKinds_104 : decode cX6_turnedKinds 104 = .ok (.istore_n 2, 1) := by decide +kernel
theorem dX6_turnedKinds_105 : decode cX6_turnedKinds 105 = .ok (.iinc 3 1, 3) := by decide +kernel
theorem dX6_turnedKinds_108 : decode cX6_turnedKinds 108 = .ok (.goto (-57), 3) := by decide +kernel
theorem dX6_turnedKinds_111 : decode cX6_turnedKinds 111 = .ok (.aload_n 0, 1) := by decide +kernel
theorem dX6_turnedKinds_112 : decode cX6_turnedKinds 112 = .ok (.getfield 26, 3) := by decide +kernel
theorem dX6_turnedKinds_115 : decode cX6_turnedKinds 115 = .ok (.iload_n 1, 1) := by decide +kernel
theorem dX6_turnedKinds_116 : decode cX6_turnedKinds 116 = .ok (.aload_n 0, 1) := by decide +kernel
theorem dX6_turnedKinds_117 : decode cX6_turnedKinds 117 = .ok (.getfield 26, 3) := by decide +kernel
theorem dX6_turnedKinds_120 : decode cX6_turnedKinds 120 = .ok (.iload_n 1, 1) := by decide +kernel
theorem dX6_turnedKinds_121 : decode cX6_turnedKinds 121 = .ok (.baload, 1) := by decide +kernel
theorem dX6_turnedKinds_122 : decode cX6_turnedKinds 122 = .ok (.ifCond .ne 7, 3) := by decide +kernel
theorem dX6_turnedKinds_125 : decode cX6_turnedKinds 125 = .ok (.iconst 1, 1) := by decide +kernel
theorem dX6_turnedKinds_126 : decode cX6_turnedKinds 126 = .ok (.goto 4, 3) := by decide +kernel
theorem dX6_turnedKinds_129 : decode cX6_turnedKinds 129 = .ok (.iconst 0, 1) := by decide +kernel
theorem dX6_turnedKinds_130 : decode cX6_turnedKinds 130 = .ok (.bastore, 1) := by decide +kernel
theorem dX6_turnedKinds_131 : decode cX6_turnedKinds 131 = .ok (.iload_n 2, 1) := by decide +kernel
theorem dX6_turnedKinds_132 : decode cX6_turnedKinds 132 = .ok (.ireturn, 1) := by decide +kernel
set_option maxRecDepth 20000 in
theorem ggX6_idle_X6_isLine : GoodIn wsX6_idle wsX6_isLine := goodIn_r _ [5, 6, 7, 8, 4, 9, 46, 47, 48, 49, 50, 51, 52, 53, 54, 55, 56, 57, 58, 59, 60, 61, 62, 63, 64, 65, 66] (by decide +kernel) (by decide +kernel)
set_option maxRecDepth 20000 in
theorem gX6_idle_X6_isLine : GoodIn wsX6_idle (wsV RX6 90 RX6 yX6_isLine wsX6_isLine) := goodIn_app (goodIn_of _ (by decide +kernel)) ggX6_idle_X6_isLine
set_option maxRecDepth 20000 in
theorem ggX6_idle_X6_turnedKinds : GoodIn wsX6_idle wsX6_turnedKinds := goodIn_r _ [13, 14, 15, 16, 17, 18, 4, 19, 20, 21, 22, 23, 24, 25, 26, 27, 28, 29, 30, 31, 32, 33, 6, 34, 35, 36, 37, 38, 39, 40, 41, 42, 43, 44, 45, 7, 8, 9, 46, 47, 48, 49, 50, 51, 52, 53, 54, 55, 56, 57, 58, 59, 60, 61, 62, 63, 64, 65, 66] (by decide +kernel) (by decide +kernel)
set_option maxRecDepth 20000 in
theorem gX6_idle_X6_turnedKinds : GoodIn wsX6_idle (wsV RX6 115 RX6 yX6_turnedKinds wsX6_turnedKinds) := goodIn_app (goodIn_of _ (by decide +kernel)) ggX6_idle_X6_turnedKinds
theorem dX6_idle_0 : decode cX6_idle 0 = .ok (.aload_n 0, 1) := by decide +kernel
theorem dX6_idle_1 : decode cX6_idle 1 = .ok (.iload_n 1, 1) := by decide +kernel
theorem dX6_idle_2 : decode cX6_idle 2 = .ok (.invokevirtual 90, 3) := by decide +kernel
theorem dX6_idle_5 : decode cX6_idle 5 = .ok (.ifCond .ne 7, 3) := by decide +kernel
theorem dX6_idle_8 : decode cX6_idle 8 = .ok (.iconst (-1), 1) := by decide +kernel
theorem dX6_idle_9 : decode cX6_idle 9 = .ok (.goto 16, 3) := by decide +kernel
theorem dX6_idle_12 : decode cX6_idle 12 = .ok (.aload_n 0, 1) := by decide +kernel
theorem dX6_idle_13 : decode cX6_idle 13 = .ok (.iload_n 1, 1) := by decide +kernel
theorem dX6_idle_14 : decode cX6_idle 14 = .ok (.invokevirtual 115, 3) := by decide +kernel
theorem dX6_idle_17 : decode cX6_idle 17 = .ok (.ifCond .ne 7, 3) := by decide +kernel
theorem dX6_idle_20 : decode cX6_idle 20 = .ok (.iconst 1, 1) := by decide +kernel
theorem dX6_idle_21 : decode cX6_idle 21 = .ok (.goto 4, 3) := by decide +kernel
theorem dX6_idle_24 : decode cX6_idle 24 = .ok (.iconst 0, 1) := by decide +kernel
theorem dX6_idle_25 : decode cX6_idle 25 = .ok (.ireturn, 1) := by decide +kernel
set_option maxRecDepth 20000 in
theorem ggX6_isMoment_X6_in : GoodIn wsX6_isMoment wsX6_in := goodIn_r _ [5] (by decide +kernel) (by decide +kernel)
set_option maxRecDepth 20000 in
theorem gX6_isMoment_X6_in : GoodIn wsX6_isMoment (va_wsS RX6 66 yX6_in wsX6_in) := goodIn_app (goodIn_of _ (by decide +kernel)) ggX6_isMoment_X6_in
theorem dX6_isMoment_0 : decode cX6_isMoment 0 = .ok (.iload_n 1, 1) := by decide +kernel
theorem dX6_isMoment_1 : decode cX6_isMoment 1 = .ok (.iconst 0, 1) := by decide +kernel
theorem dX6_isMoment_2 : decode cX6_isMoment 2 = .ok (.aload_n 0, 1) := by decide +kernel
theorem dX6_isMoment_3 : decode cX6_isMoment 3 = .ok (.getfield 73, 3) := by decide +kernel
theorem dX6_isMoment_6 : decode cX6_isMoment 6 = .ok (.iconst 1, 1) := by decide +kernel
theorem dX6_isMoment_7 : decode cX6_isMoment 7 = .ok (.isub, 1) := by decide +kernel
theorem dX6_isMoment_8 : decode cX6_isMoment 8 = .ok (.invokestatic 66, 3) := by decide +kernel
theorem dX6_isMoment_11 : decode cX6_isMoment 11 = .ok (.ireturn, 1) := by decide +kernel
theorem dX6_moment_0 : decode cX6_moment 0 = .ok (.aload_n 0, 1) := by decide +kernel
theorem dX6_moment_1 : decode cX6_moment 1 = .ok (.getfield 73, 3) := by decide +kernel
theorem dX6_moment_4 : decode cX6_moment 4 = .ok (.bipush 30, 2) := by decide +kernel
theorem dX6_moment_6 : decode cX6_moment 6 = .ok (.if_icmp .ne 6, 3) := by decide +kernel
theorem dX6_moment_9 : decode cX6_moment 9 = .ok (.bipush (-4), 2) := by decide +kernel
theorem dX6_moment_11 : decode cX6_moment 11 = .ok (.ireturn, 1) := by decide +kernel
theorem dX6_moment_12 : decode cX6_moment 12 = .ok (.iconst 0, 1) := by decide +kernel
theorem dX6_moment_13 : decode cX6_moment 13 = .ok (.istore_n 1, 1) := by decide +kernel
theorem dX6_moment_14 : decode cX6_moment 14 = .ok (.iload_n 1, 1) := by decide +kernel
theorem dX6_moment_15 : decode cX6_moment 15 = .ok (.iconst 3, 1) := by decide +kernel
theorem dX6_moment_16 : decode cX6_moment 16 = .ok (.if_icmp .ge 37, 3) := by decide +kernel
theorem dX6_moment_19 : decode cX6_moment 19 = .ok (.aload_n 0, 1) := by decide +kernel
theorem dX6_moment_20 : decode cX6_moment 20 = .ok (.getfield 33, 3) := by decide +kernel
theorem dX6_moment_23 : decode cX6_moment 23 = .ok (.iconst 3, 1) := by decide +kernel
theorem dX6_moment_24 : decode cX6_moment 24 = .ok (.aload_n 0, 1) := by decide +kernel
theorem dX6_moment_25 : decode cX6_moment 25 = .ok (.getfield 73, 3) := by decide +kernel
theorem dX6_moment_28 : decode cX6_moment 28 = .ok (.imul, 1) := by decide +kernel
theorem dX6_moment_29 : decode cX6_moment 29 = .ok (.iload_n 1, 1) := by decide +kernel
theorem dX6_moment_30 : decode cX6_moment 30 = .ok (.iadd, 1) := by decide +kernel
theorem dX6_moment_31 : decode cX6_moment 31 = .ok (.iconst 0, 1) := by decide +kernel
theorem dX6_moment_32 : decode cX6_moment 32 = .ok (.iastore, 1) := by decide +kernel
theorem dX6_moment_33 : decode cX6_moment 33 = .ok (.aload_n 0, 1) := by decide +kernel
theorem dX6_moment_34 : decode cX6_moment 34 = .ok (.getfield 36, 3) := by decide +kernel
theorem dX6_moment_37 : decode cX6_moment 37 = .ok (.iconst 3, 1) := by decide +kernel
theorem dX6_moment_38 : decode cX6_moment 38 = .ok (.aload_n 0, 1) := by decide +kernel
theorem dX6_moment_39 : decode cX6_moment 39 = .ok (.getfield 73, 3) := by decide +kernel
theorem dX6_moment_42 : decode cX6_moment 42 = .ok (.imul, 1) := by decide +kernel
theorem dX6_moment_43 : decode cX6_moment 43 = .ok (.iload_n 1, 1) := by decide +kernel
theorem dX6_moment_44 : decode cX6_moment 44 = .ok (.iadd, 1) := by decide +kernel
theorem dX6_moment_45 : decode cX6_moment 45 = .ok (.iconst 0, 1) := by decide +kernel
theorem dX6_moment_46 : decode cX6_moment 46 = .ok (.iastore, 1) := by decide +kernel
theorem dX6_moment_47 : decode cX6_moment 47 = .ok (.iinc 1 1, 3) := by decide +kernel
theorem dX6_moment_50 : decode cX6_moment 50 = .ok (.goto (-36), 3) := by decide +kernel
theorem dX6_moment_53 : decode cX6_moment 53 = .ok (.aload_n 0, 1) := by decide +kernel
theorem dX6_moment_54 : decode cX6_moment 54 = .ok (.getfield 39, 3) := by decide +kernel
theorem dX6_moment_57 : decode cX6_moment 57 = .ok (.aload_n 0, 1) := by decide +kernel
theorem dX6_moment_58 : decode cX6_moment 58 = .ok (.getfield 73, 3) := by decide +kernel
theorem dX6_moment_61 : decode cX6_moment 61 = .ok (.iconst (-1), 1) := by decide +kernel
theorem dX6_moment_62 : decode cX6_moment 62 = .ok (.iastore, 1) := by decide +kernel
theorem dX6_moment_63 : decode cX6_moment 63 = .ok (.aload_n 0, 1) := by decide +kernel
theorem dX6_moment_64 : decode cX6_moment 64 = .ok (.dup, 1) := by decide +kernel
theorem dX6_moment_65 : decode cX6_moment 65 = .ok (.getfield 73, 3) := by decide +kernel
theorem dX6_moment_68 : decode cX6_moment 68 = .ok (.iconst 1, 1) := by decide +kernel
theorem dX6_moment_69 : decode cX6_moment 69 = .ok (.iadd, 1) := by decide +kernel
theorem dX6_moment_70 : decode cX6_moment 70 = .ok (.putfield 73, 3) := by decide +kernel
theorem dX6_moment_73 : decode cX6_moment 73 = .ok (.aload_n 0, 1) := by decide +kernel
theorem dX6_moment_74 : decode cX6_moment 74 = .ok (.getfield 73, 3) := by decide +kernel
theorem dX6_moment_77 : decode cX6_moment 77 = .ok (.iconst 1, 1) := by decide +kernel
theorem dX6_moment_78 : decode cX6_moment 78 = .ok (.isub, 1) := by decide +kernel
theorem dX6_moment_79 : decode cX6_moment 79 = .ok (.ireturn, 1) := by decide +kernel
set_option maxRecDepth 20000 in
theorem ggX6_tell_X6_isMoment : GoodIn wsX6_tell wsX6_isMoment := goodIn_r _ [7, 8, 9, 10, 6, 11, 17, 18, 19, 20, 21, 22, 23, 24, 25, 26, 27, 28, 29, 30, 31, 32, 33, 34, 35, 36, 37] (by decide +kernel) (by decide +kernel)
set_option maxRecDepth 20000 in
theorem gX6_tell_X6_isMoment : GoodIn wsX6_tell (wsV RX6 118 RX6 yX6_isMoment wsX6_isMoment) := goodIn_app (goodIn_of _ (by decide +kernel)) ggX6_tell_X6_isMoment
set_option maxRecDepth 20000 in
theorem ggX6_tell_X6_isFact : GoodIn wsX6_tell wsX6_isFact := goodIn_r _ [15, 16, 9, 10, 6, 11, 17, 18, 19, 20, 21, 22, 23, 24, 25, 26, 27, 28, 29, 30, 31, 32, 33, 34, 35, 36, 37] (by decide +kernel) (by decide +kernel)
set_option maxRecDepth 20000 in
theorem gX6_tell_X6_isFact : GoodIn wsX6_tell (wsV RX6 79 RX6 yX6_isFact wsX6_isFact) := goodIn_app (goodIn_of _ (by decide +kernel)) ggX6_tell_X6_isFact
set_option maxRecDepth 20000 in
theorem ggX6_tell_X6_in : GoodIn wsX6_tell wsX6_in := goodIn_r _ [11] (by decide +kernel) (by decide +kernel)
set_option maxRecDepth 20000 in
theorem gX6_tell_X6_in : GoodIn wsX6_tell (va_wsS RX6 66 yX6_in wsX6_in) := goodIn_app (goodIn_of _ (by decide +kernel)) ggX6_tell_X6_in
theorem dX6_tell_0 : decode cX6_tell 0 = .ok (.aload_n 0, 1) := by decide +kernel
theorem dX6_tell_1 : decode cX6_tell 1 = .ok (.iload_n 1, 1) := by decide +kernel
theorem dX6_tell_2 : decode cX6_tell 2 = .ok (.invokevirtual 118, 3) := by decide +kernel
theorem dX6_tell_5 : decode cX6_tell 5 = .ok (.ifCond .eq 11, 3) := by decide +kernel
theorem dX6_tell_8 : decode cX6_tell 8 = .ok (.aload_n 0, 1) := by decide +kernel
theorem dX6_tell_9 : decode cX6_tell 9 = .ok (.iload_n 3, 1) := by decide +kernel
theorem dX6_tell_10 : decode cX6_tell 10 = .ok (.invokevirtual 79, 3) := by decide +kernel
theorem dX6_tell_13 : decode cX6_tell 13 = .ok (.ifCond .ne 5, 3) := by decide +kernel
theorem dX6_tell_16 : decode cX6_tell 16 = .ok (.iconst (-1), 1) := by decide +kernel
theorem dX6_tell_17 : decode cX6_tell 17 = .ok (.ireturn, 1) := by decide +kernel
theorem dX6_tell_18 : decode cX6_tell 18 = .ok (.iload_n 2, 1) := by decide +kernel
theorem dX6_tell_19 : decode cX6_tell 19 = .ok (.iconst 0, 1) := by decide +kernel
theorem dX6_tell_20 : decode cX6_tell 20 = .ok (.iconst 2, 1) := by decide +kernel
theorem dX6_tell_21 : decode cX6_tell 21 = .ok (.invokestatic 66, 3) := by decide +kernel
theorem dX6_tell_24 : decode cX6_tell 24 = .ok (.ifCond .eq 13, 3) := by decide +kernel
theorem dX6_tell_27 : decode cX6_tell 27 = .ok (.iload 4, 2) := by decide +kernel
theorem dX6_tell_29 : decode cX6_tell 29 = .ok (.iconst 0, 1) := by decide +kernel
theorem dX6_tell_30 : decode cX6_tell 30 = .ok (.iconst 2, 1) := by decide +kernel
theorem dX6_tell_31 : decode cX6_tell 31 = .ok (.invokestatic 66, 3) := by decide +kernel
theorem dX6_tell_34 : decode cX6_tell 34 = .ok (.ifCond .ne 6, 3) := by decide +kernel
theorem dX6_tell_37 : decode cX6_tell 37 = .ok (.bipush (-2), 2) := by decide +kernel
theorem dX6_tell_39 : decode cX6_tell 39 = .ok (.ireturn, 1) := by decide +kernel
theorem dX6_tell_40 : decode cX6_tell 40 = .ok (.iconst 3, 1) := by decide +kernel
theorem dX6_tell_41 : decode cX6_tell 41 = .ok (.iload_n 1, 1) := by decide +kernel
theorem dX6_tell_42 : decode cX6_tell 42 = .ok (.imul, 1) := by decide +kernel
theorem dX6_tell_43 : decode cX6_tell 43 = .ok (.iload_n 2, 1) := by decide +kernel
theorem dX6_tell_44 : decode cX6_tell 44 = .ok (.iadd, 1) := by decide +kernel
theorem dX6_tell_45 : decode cX6_tell 45 = .ok (.istore 5, 2) := by decide +kernel
theorem dX6_tell_47 : decode cX6_tell 47 = .ok (.aload_n 0, 1) := by decide +kernel
theorem dX6_tell_48 : decode cX6_tell 48 = .ok (.getfield 33, 3) := by decide +kernel
theorem dX6_tell_51 : decode cX6_tell 51 = .ok (.iload 5, 2) := by decide +kernel
theorem dX6_tell_53 : decode cX6_tell 53 = .ok (.iaload, 1) := by decide +kernel
theorem dX6_tell_54 : decode cX6_tell 54 = .ok (.iload_n 3, 1) := by decide +kernel
theorem dX6_tell_55 : decode cX6_tell 55 = .ok (.ishr, 1) := by decide +kernel
theorem dX6_tell_56 : decode cX6_tell 56 = .ok (.iconst 1, 1) := by decide +kernel
theorem dX6_tell_57 : decode cX6_tell 57 = .ok (.iand, 1) := by decide +kernel
theorem dX6_tell_58 : decode cX6_tell 58 = .ok (.iconst 1, 1) := by decide +kernel
theorem dX6_tell_59 : decode cX6_tell 59 = .ok (.if_icmp .ne 7, 3) := by decide +kernel
theorem dX6_tell_62 : decode cX6_tell 62 = .ok (.iconst 1, 1) := by decide +kernel
theorem dX6_tell_63 : decode cX6_tell 63 = .ok (.goto 23, 3) := by decide +kernel
theorem dX6_tell_66 : decode cX6_tell 66 = .ok (.aload_n 0, 1) := by decide +kernel
theorem dX6_tell_67 : decode cX6_tell 67 = .ok (.getfield 36, 3) := by decide +kernel
theorem dX6_tell_70 : decode cX6_tell 70 = .ok (.iload 5, 2) := by decide +kernel
theorem dX6_tell_72 : decode cX6_tell 72 = .ok (.iaload, 1) := by decide +kernel
theorem dX6_tell_73 : decode cX6_tell 73 = .ok (.iload_n 3, 1) := by decide +kernel
theorem dX6_tell_74 : decode cX6_tell 74 = .ok (.ishr, 1) := by decide +kernel
theorem dX6_tell_75 : decode cX6_tell 75 = .ok (.iconst 1, 1) := by decide +kernel
theorem dX6_tell_76 : decode cX6_tell 76 = .ok (.iand, 1) := by decide +kernel
theorem dX6_tell_77 : decode cX6_tell 77 = .ok (.iconst 1, 1) := by decide +kernel
theorem dX6_tell_78 : decode cX6_tell 78 = .ok (.if_icmp .ne 7, 3) := by decide +kernel
theorem dX6_tell_81 : decode cX6_tell 81 = .ok (.iconst 0, 1) := by decide +kernel
theorem dX6_tell_82 : decode cX6_tell 82 = .ok (.goto 4, 3) := by decide +kernel
theorem dX6_tell_85 : decode cX6_tell 85 = .ok (.iconst 2, 1) := by decide +kernel
theorem dX6_tell_86 : decode cX6_tell 86 = .ok (.istore 6, 2) := by decide +kernel
theorem dX6_tell_88 : decode cX6_tell 88 = .ok (.aload_n 0, 1) := by decide +kernel
theorem dX6_tell_89 : decode cX6_tell 89 = .ok (.getfield 33, 3) := by decide +kernel
theorem dX6_tell_92 : decode cX6_tell 92 = .ok (.iload 5, 2) := by decide +kernel
theorem dX6_tell_94 : decode cX6_tell 94 = .ok (.iload 4, 2) := by decide +kernel
theorem dX6_tell_96 : decode cX6_tell 96 = .ok (.iconst 1, 1) := by decide +kernel
theorem dX6_tell_97 : decode cX6_tell 97 = .ok (.if_icmp .ne 17, 3) := by decide +kernel
theorem dX6_tell_100 : decode cX6_tell 100 = .ok (.aload_n 0, 1) := by decide +kernel
theorem dX6_tell_101 : decode cX6_tell 101 = .ok (.getfield 33, 3) := by decide +kernel
theorem dX6_tell_104 : decode cX6_tell 104 = .ok (.iload 5, 2) := by decide +kernel
theorem dX6_tell_106 : decode cX6_tell 106 = .ok (.iaload, 1) := by decide +kernel
theorem dX6_tell_107 : decode cX6_tell 107 = .ok (.iconst 1, 1) := by decide +kernel
theorem dX6_tell_108 : decode cX6_tell 108 = .ok (.iload_n 3, 1) := by decide +kernel
theorem dX6_tell_109 : decode cX6_tell 109 = .ok (.ishl, 1) := by decide +kernel
theorem dX6_tell_110 : decode cX6_tell 110 = .ok (.ior, 1) := by decide +kernel
theorem dX6_tell_111 : decode cX6_tell 111 = .ok (.goto 16, 3) := by decide +kernel
theorem dX6_tell_114 : decode cX6_tell 114 = .ok (.aload_n 0, 1) := by decide +kernel
theorem dX6_tell_115 : decode cX6_tell 115 = .ok (.getfield 33, 3) := by decide +kernel
theorem dX6_tell_118 : decode cX6_tell 118 = .ok (.iload 5, 2) := by decide +kernel
theorem dX6_tell_120 : decode cX6_tell 120 = .ok (.iaload, 1) := by decide +kernel
theorem dX6_tell_121 : decode cX6_tell 121 = .ok (.iconst 1, 1) := by decide +kernel
theorem dX6_tell_122 : decode cX6_tell 122 = .ok (.iload_n 3, 1) := by decide +kernel
theorem dX6_tell_123 : decode cX6_tell 123 = .ok (.ishl, 1) := by decide +kernel
theorem dX6_tell_124 : decode cX6_tell 124 = .ok (.iconst (-1), 1) := by decide +kernel
theorem dX6_tell_125 : decode cX6_tell 125 = .ok (.ixor, 1) := by decide +kernel
theorem dX6_tell_126 : decode cX6_tell 126 = .ok (.iand, 1) := by decide +kernel
theorem dX6_tell_127 : decode cX6_tell 127 = .ok (.iastore, 1) := by decide +kernel
theorem dX6_tell_128 : decode cX6_tell 128 = .ok (.aload_n 0, 1) := by decide +kernel
theorem dX6_tell_129 : decode cX6_tell 129 = .ok (.getfield 36, 3) := by decide +kernel
theorem dX6_tell_132 : decode cX6_tell 132 = .ok (.iload 5, 2) := by decide +kernel
theorem dX6_tell_134 : decode cX6_tell 134 = .ok (.iload 4, 2) := by decide +kernel
theorem dX6_tell_136 : decode cX6_tell 136 = .ok (.ifCond .ne 17, 3) := by decide +kernel
theorem dX6_tell_139 : decode cX6_tell 139 = .ok (.aload_n 0, 1) := by decide +kernel
theorem dX6_tell_140 : decode cX6_tell 140 = .ok (.getfield 36, 3) := by decide +kernel
theorem dX6_tell_143 : decode cX6_tell 143 = .ok (.iload 5, 2) := by decide +kernel
theorem dX6_tell_145 : decode cX6_tell 145 = .ok (.iaload, 1) := by decide +kernel
theorem dX6_tell_146 : decode cX6_tell 146 = .ok (.iconst 1, 1) := by decide +kernel
theorem dX6_tell_147 : decode cX6_tell 147 = .ok (.iload_n 3, 1) := by decide +kernel
theorem dX6_tell_148 : decode cX6_tell 148 = .ok (.ishl, 1) := by decide +kernel
theorem dX6_tell_149 : decode cX6_tell 149 = .ok (.ior, 1) := by decide +kernel
theorem dX6_tell_150 : decode cX6_tell 150 = .ok (.goto 16, 3) := by decide +kernel
theorem dX6_tell_153 : decode cX6_tell 153 = .ok (.aload_n 0, 1) := by decide +kernel
theorem dX6_tell_154 : decode cX6_tell 154 = .ok (.getfield 36, 3) := by decide +kernel
theorem dX6_tell_157 : decode cX6_tell 157 = .ok (.iload 5, 2) := by decide +kernel
theorem dX6_tell_159 : decode cX6_tell 159 = .ok (.iaload, 1) := by decide +kernel
theorem dX6_tell_160 : decode cX6_tell 160 = .ok (.iconst 1, 1) := by decide +kernel
theorem dX6_tell_161 : decode cX6_tell 161 = .ok (.iload_n 3, 1) := by decide +kernel
theorem dX6_tell_162 : decode cX6_tell 162 = .ok (.ishl, 1) := by decide +kernel
theorem dX6_tell_163 : decode cX6_tell 163 = .ok (.iconst (-1), 1) := by decide +kernel
theorem dX6_tell_164 : decode cX6_tell 164 = .ok (.ixor, 1) := by decide +kernel
theorem dX6_tell_165 : decode cX6_tell 165 = .ok (.iand, 1) := by decide +kernel
theorem dX6_tell_166 : decode cX6_tell 166 = .ok (.iastore, 1) := by decide +kernel
theorem dX6_tell_167 : decode cX6_tell 167 = .ok (.iload 6, 2) := by decide +kernel
theorem dX6_tell_169 : decode cX6_tell 169 = .ok (.ireturn, 1) := by decide +kernel
theorem dX6_so_0 : decode cX6_so 0 = .ok (.aload_n 0, 1) := by decide +kernel
theorem dX6_so_1 : decode cX6_so 1 = .ok (.getfield 33, 3) := by decide +kernel
theorem dX6_so_4 : decode cX6_so 4 = .ok (.iconst 3, 1) := by decide +kernel
theorem dX6_so_5 : decode cX6_so 5 = .ok (.iload_n 1, 1) := by decide +kernel
theorem dX6_so_6 : decode cX6_so 6 = .ok (.imul, 1) := by decide +kernel
theorem dX6_so_7 : decode cX6_so 7 = .ok (.iaload, 1) := by decide +kernel
theorem dX6_so_8 : decode cX6_so 8 = .ok (.aload_n 0, 1) := by decide +kernel
theorem dX6_so_9 : decode cX6_so 9 = .ok (.getfield 33, 3) := by decide +kernel
theorem dX6_so_12 : decode cX6_so 12 = .ok (.iconst 3, 1) := by decide +kernel
theorem dX6_so_13 : decode cX6_so 13 = .ok (.iload_n 1, 1) := by decide +kernel
theorem dX6_so_14 : decode cX6_so 14 = .ok (.imul, 1) := by decide +kernel
theorem dX6_so_15 : decode cX6_so 15 = .ok (.iconst 1, 1) := by decide +kernel
theorem dX6_so_16 : decode cX6_so 16 = .ok (.iadd, 1) := by decide +kernel
theorem dX6_so_17 : decode cX6_so 17 = .ok (.iaload, 1) := by decide +kernel
theorem dX6_so_18 : decode cX6_so 18 = .ok (.ior, 1) := by decide +kernel
theorem dX6_so_19 : decode cX6_so 19 = .ok (.aload_n 0, 1) := by decide +kernel
theorem dX6_so_20 : decode cX6_so 20 = .ok (.getfield 33, 3) := by decide +kernel
theorem dX6_so_23 : decode cX6_so 23 = .ok (.iconst 3, 1) := by decide +kernel
theorem dX6_so_24 : decode cX6_so 24 = .ok (.iload_n 1, 1) := by decide +kernel
theorem dX6_so_25 : decode cX6_so 25 = .ok (.imul, 1) := by decide +kernel
theorem dX6_so_26 : decode cX6_so 26 = .ok (.iconst 2, 1) := by decide +kernel
theorem dX6_so_27 : decode cX6_so 27 = .ok (.iadd, 1) := by decide +kernel
theorem dX6_so_28 : decode cX6_so 28 = .ok (.iaload, 1) := by decide +kernel
theorem dX6_so_29 : decode cX6_so 29 = .ok (.ior, 1) := by decide +kernel
theorem dX6_so_30 : decode cX6_so 30 = .ok (.istore_n 2, 1) := by decide +kernel
theorem dX6_so_31 : decode cX6_so 31 = .ok (.aload_n 0, 1) := by decide +kernel
theorem dX6_so_32 : decode cX6_so 32 = .ok (.getfield 36, 3) := by decide +kernel
theorem dX6_so_35 : decode cX6_so 35 = .ok (.iconst 3, 1) := by decide +kernel
theorem dX6_so_36 : decode cX6_so 36 = .ok (.iload_n 1, 1) := by decide +kernel
theorem dX6_so_37 : decode cX6_so 37 = .ok (.imul, 1) := by decide +kernel
theorem dX6_so_38 : decode cX6_so 38 = .ok (.iaload, 1) := by decide +kernel
theorem dX6_so_39 : decode cX6_so 39 = .ok (.aload_n 0, 1) := by decide +kernel
theorem dX6_so_40 : decode cX6_so 40 = .ok (.getfield 36, 3) := by decide +kernel
theorem dX6_so_43 : decode cX6_so 43 = .ok (.iconst 3, 1) := by decide +kernel
theorem dX6_so_44 : decode cX6_so 44 = .ok (.iload_n 1, 1) := by decide +kernel
theorem dX6_so_45 : decode cX6_so 45 = .ok (.imul, 1) := by decide +kernel
theorem dX6_so_46 : decode cX6_so 46 = .ok (.iconst 1, 1) := by decide +kernel
theorem dX6_so_47 : decode cX6_so 47 = .ok (.iadd, 1) := by decide +kernel
theorem dX6_so_48 : decode cX6_so 48 = .ok (.iaload, 1) := by decide +kernel
theorem dX6_so_49 : decode cX6_so 49 = .ok (.ior, 1) := by decide +kernel
theorem dX6_so_50 : decode cX6_so 50 = .ok (.aload_n 0, 1) := by decide +kernel
theorem dX6_so_51 : decode cX6_so 51 = .ok (.getfield 36, 3) := by decide +kernel
theorem dX6_so_54 : decode cX6_so 54 = .ok (.iconst 3, 1) := by decide +kernel
theorem dX6_so_55 : decode cX6_so 55 = .ok (.iload_n 1, 1) := by decide +kernel
theorem dX6_so_56 : decode cX6_so 56 = .ok (.imul, 1) := by decide +kernel
theorem dX6_so_57 : decode cX6_so 57 = .ok (.iconst 2, 1) := by decide +kernel
theorem dX6_so_58 : decode cX6_so 58 = .ok (.iadd, 1) := by decide +kernel
theorem dX6_so_59 : decode cX6_so 59 = .ok (.iaload, 1) := by decide +kernel
theorem dX6_so_60 : decode cX6_so 60 = .ok (.ior, 1) := by decide +kernel
theorem dX6_so_61 : decode cX6_so 61 = .ok (.istore_n 3, 1) := by decide +kernel
theorem dX6_so_62 : decode cX6_so 62 = .ok (.iload_n 2, 1) := by decide +kernel
theorem dX6_so_63 : decode cX6_so 63 = .ok (.iload_n 3, 1) := by decide +kernel
theorem dX6_so_64 : decode cX6_so 64 = .ok (.iconst (-1), 1) := by decide +kernel
theorem dX6_so_65 : decode cX6_so 65 = .ok (.ixor, 1) := by decide +kernel
theorem dX6_so_66 : decode cX6_so 66 = .ok (.iand, 1) := by decide +kernel
theorem dX6_so_67 : decode cX6_so 67 = .ok (.ireturn, 1) := by decide +kernel
theorem dX6_notSo_0 : decode cX6_notSo 0 = .ok (.aload_n 0, 1) := by decide +kernel
theorem dX6_notSo_1 : decode cX6_notSo 1 = .ok (.getfield 33, 3) := by decide +kernel
theorem dX6_notSo_4 : decode cX6_notSo 4 = .ok (.iconst 3, 1) := by decide +kernel
theorem dX6_notSo_5 : decode cX6_notSo 5 = .ok (.iload_n 1, 1) := by decide +kernel
theorem dX6_notSo_6 : decode cX6_notSo 6 = .ok (.imul, 1) := by decide +kernel
theorem dX6_notSo_7 : decode cX6_notSo 7 = .ok (.iaload, 1) := by decide +kernel
theorem dX6_notSo_8 : decode cX6_notSo 8 = .ok (.aload_n 0, 1) := by decide +kernel
theorem dX6_notSo_9 : decode cX6_notSo 9 = .ok (.getfield 33, 3) := by decide +kernel
theorem dX6_notSo_12 : decode cX6_notSo 12 = .ok (.iconst 3, 1) := by decide +kernel
theorem dX6_notSo_13 : decode cX6_notSo 13 = .ok (.iload_n 1, 1) := by decide +kernel
theorem dX6_notSo_14 : decode cX6_notSo 14 = .ok (.imul, 1) := by decide +kernel
theorem dX6_notSo_15 : decode cX6_notSo 15 = .ok (.iconst 1, 1) := by decide +kernel
theorem dX6_notSo_16 : decode cX6_notSo 16 = .ok (.iadd, 1) := by decide +kernel
theorem dX6_notSo_17 : decode cX6_notSo 17 = .ok (.iaload, 1) := by decide +kernel
theorem dX6_notSo_18 : decode cX6_notSo 18 = .ok (.ior, 1) := by decide +kernel
theorem dX6_notSo_19 : decode cX6_notSo 19 = .ok (.aload_n 0, 1) := by decide +kernel
theorem dX6_notSo_20 : decode cX6_notSo 20 = .ok (.getfield 33, 3) := by decide +kernel
theorem dX6_notSo_23 : decode cX6_notSo 23 = .ok (.iconst 3, 1) := by decide +kernel
theorem dX6_notSo_24 : decode cX6_notSo 24 = .ok (.iload_n 1, 1) := by decide +kernel
theorem dX6_notSo_25 : decode cX6_notSo 25 = .ok (.imul, 1) := by decide +kernel
theorem dX6_notSo_26 : decode cX6_notSo 26 = .ok (.iconst 2, 1) := by decide +kernel
theorem dX6_notSo_27 : decode cX6_notSo 27 = .ok (.iadd, 1) := by decide +kernel
theorem dX6_notSo_28 : decode cX6_notSo 28 = .ok (.iaload, 1) := by decide +kernel
theorem dX6_notSo_29 : decode cX6_notSo 29 = .ok (.ior, 1) := by decide +kernel
theorem dX6_notSo_30 : decode cX6_notSo 30 = .ok (.istore_n 2, 1) := by decide +kernel
theorem dX6_notSo_31 : decode cX6_notSo 31 = .ok (.aload_n 0, 1) := by decide +kernel
theorem dX6_notSo_32 : decode cX6_notSo 32 = .ok (.getfield 36, 3) := by decide +kernel
theorem dX6_notSo_35 : decode cX6_notSo 35 = .ok (.iconst 3, 1) := by decide +kernel
theorem dX6_notSo_36 : decode cX6_notSo 36 = .ok (.iload_n 1, 1) := by decide +kernel
theorem dX6_notSo_37 : decode cX6_notSo 37 = .ok (.imul, 1) := by decide +kernel
theorem dX6_notSo_38 : decode cX6_notSo 38 = .ok (.iaload, 1) := by decide +kernel
theorem dX6_notSo_39 : decode cX6_notSo 39 = .ok (.aload_n 0, 1) := by decide +kernel
theorem dX6_notSo_40 : decode cX6_notSo 40 = .ok (.getfield 36, 3) := by decide +kernel
theorem dX6_notSo_43 : decode cX6_notSo 43 = .ok (.iconst 3, 1) := by decide +kernel
theorem dX6_notSo_44 : decode cX6_notSo 44 = .ok (.iload_n 1, 1) := by decide +kernel
theorem dX6_notSo_45 : decode cX6_notSo 45 = .ok (.imul, 1) := by decide +kernel
theorem dX6_notSo_46 : decode cX6_notSo 46 = .ok (.iconst 1, 1) := by decide +kernel
theorem dX6_notSo_47 : decode cX6_notSo 47 = .ok (.iadd, 1) := by decide +kernel
theorem dX6_notSo_48 : decode cX6_notSo 48 = .ok (.iaload, 1) := by decide +kernel
theorem dX6_notSo_49 : decode cX6_notSo 49 = .ok (.ior, 1) := by decide +kernel
theorem dX6_notSo_50 : decode cX6_notSo 50 = .ok (.aload_n 0, 1) := by decide +kernel
theorem dX6_notSo_51 : decode cX6_notSo 51 = .ok (.getfield 36, 3) := by decide +kernel
theorem dX6_notSo_54 : decode cX6_notSo 54 = .ok (.iconst 3, 1) := by decide +kernel
theorem dX6_notSo_55 : decode cX6_notSo 55 = .ok (.iload_n 1, 1) := by decide +kernel
theorem dX6_notSo_56 : decode cX6_notSo 56 = .ok (.imul, 1) := by decide +kernel
theorem dX6_notSo_57 : decode cX6_notSo 57 = .ok (.iconst 2, 1) := by decide +kernel
theorem dX6_notSo_58 : decode cX6_notSo 58 = .ok (.iadd, 1) := by decide +kernel
theorem dX6_notSo_59 : decode cX6_notSo 59 = .ok (.iaload, 1) := by decide +kernel
theorem dX6_notSo_60 : decode cX6_notSo 60 = .ok (.ior, 1) := by decide +kernel
theorem dX6_notSo_61 : decode cX6_notSo 61 = .ok (.istore_n 3, 1) := by decide +kernel
theorem dX6_notSo_62 : decode cX6_notSo 62 = .ok (.iload_n 3, 1) := by decide +kernel
theorem dX6_notSo_63 : decode cX6_notSo 63 = .ok (.iload_n 2, 1) := by decide +kernel
theorem dX6_notSo_64 : decode cX6_notSo 64 = .ok (.iconst (-1), 1) := by decide +kernel
theorem dX6_notSo_65 : decode cX6_notSo 65 = .ok (.ixor, 1) := by decide +kernel
theorem dX6_notSo_66 : decode cX6_notSo 66 = .ok (.iand, 1) := by decide +kernel
theorem dX6_notSo_67 : decode cX6_notSo 67 = .ok (.ireturn, 1) := by decide +kernel
set_option maxRecDepth 20000 in
theorem ggX6_doubt_X6_allFacts : GoodIn wsX6_doubt wsX6_allFacts := goodIn_r _ [5, 6, 17, 18, 19, 20, 21, 22, 23, 24, 25, 26, 27, 28, 29, 30, 31, 32, 33, 34, 35, 36, 37] (by decide +kernel) (by decide +kernel)
set_option maxRecDepth 20000 in
theorem gX6_doubt_X6_allFacts : GoodIn wsX6_doubt (wsV RX6 83 RX6 yX6_allFacts wsX6_allFacts) := goodIn_app (goodIn_of _ (by decide +kernel)) ggX6_doubt_X6_allFacts
set_option maxRecDepth 20000 in
theorem ggX6_doubt_X6_so : GoodIn wsX6_doubt wsX6_so := goodIn_r _ [10, 11, 12, 17, 18, 19, 20, 21, 22, 23, 24, 25, 26, 27, 28, 29, 30, 31, 32, 33, 34, 35, 36, 37] (by decide +kernel) (by decide +kernel)
set_option maxRecDepth 20000 in
theorem gX6_doubt_X6_so : GoodIn wsX6_doubt (wsV RX6 121 RX6 yX6_so wsX6_so) := goodIn_app (goodIn_of _ (by decide +kernel)) ggX6_doubt_X6_so
set_option maxRecDepth 20000 in
theorem ggX6_doubt_X6_notSo : GoodIn wsX6_doubt wsX6_notSo := goodIn_r _ [16, 11, 12, 17, 18, 19, 20, 21, 22, 23, 24, 25, 26, 27, 28, 29, 30, 31, 32, 33, 34, 35, 36, 37] (by decide +kernel) (by decide +kernel)
set_option maxRecDepth 20000 in
theorem gX6_doubt_X6_notSo : GoodIn wsX6_doubt (wsV RX6 124 RX6 yX6_notSo wsX6_notSo) := goodIn_app (goodIn_of _ (by decide +kernel)) ggX6_doubt_X6_notSo
theorem dX6_doubt_0 : decode cX6_doubt 0 = .ok (.aload_n 0, 1) := by decide +kernel
theorem dX6_doubt_1 : decode cX6_doubt 1 = .ok (.invokevirtual 83, 3) := by decide +kernel
theorem dX6_doubt_4 : decode cX6_doubt 4 = .ok (.aload_n 0, 1) := by decide +kernel
theorem dX6_doubt_5 : decode cX6_doubt 5 = .ok (.iload_n 1, 1) := by decide +kernel
theorem dX6_doubt_6 : decode cX6_doubt 6 = .ok (.invokevirtual 121, 3) := by decide +kernel
theorem dX6_doubt_9 : decode cX6_doubt 9 = .ok (.iconst (-1), 1) := by decide +kernel
theorem dX6_doubt_10 : decode cX6_doubt 10 = .ok (.ixor, 1) := by decide +kernel
theorem dX6_doubt_11 : decode cX6_doubt 11 = .ok (.iand, 1) := by decide +kernel
theorem dX6_doubt_12 : decode cX6_doubt 12 = .ok (.aload_n 0, 1) := by decide +kernel
theorem dX6_doubt_13 : decode cX6_doubt 13 = .ok (.iload_n 1, 1) := by decide +kernel
theorem dX6_doubt_14 : decode cX6_doubt 14 = .ok (.invokevirtual 124, 3) := by decide +kernel
theorem dX6_doubt_17 : decode cX6_doubt 17 = .ok (.iconst (-1), 1) := by decide +kernel
theorem dX6_doubt_18 : decode cX6_doubt 18 = .ok (.ixor, 1) := by decide +kernel
theorem dX6_doubt_19 : decode cX6_doubt 19 = .ok (.iand, 1) := by decide +kernel
theorem dX6_doubt_20 : decode cX6_doubt 20 = .ok (.ireturn, 1) := by decide +kernel
set_option maxRecDepth 20000 in
theorem ggX6_mayBe_X6_isKind : GoodIn wsX6_mayBe wsX6_isKind := goodIn_r _ [5, 6, 7, 8, 9, 10, 4, 11, 12, 13, 14, 25, 26, 27, 28, 29, 30, 31, 32, 33, 34, 35, 36, 37, 38, 39, 40, 41, 42, 43, 44, 45] (by decide +kernel) (by decide +kernel)
set_option maxRecDepth 20000 in
theorem gX6_mayBe_X6_isKind : GoodIn wsX6_mayBe (wsV RX6 100 RX6 yX6_isKind wsX6_isKind) := goodIn_app (goodIn_of _ (by decide +kernel)) ggX6_mayBe_X6_isKind
set_option maxRecDepth 20000 in
theorem ggX6_mayBe_X6_so : GoodIn wsX6_mayBe wsX6_so := goodIn_r _ [18, 19, 20, 25, 26, 27, 28, 29, 30, 31, 32, 33, 34, 35, 36, 37, 38, 39, 40, 41, 42, 43, 44, 45] (by decide +kernel) (by decide +kernel)
set_option maxRecDepth 20000 in
theorem gX6_mayBe_X6_so : GoodIn wsX6_mayBe (wsV RX6 121 RX6 yX6_so wsX6_so) := goodIn_app (goodIn_of _ (by decide +kernel)) ggX6_mayBe_X6_so
set_option maxRecDepth 20000 in
theorem ggX6_mayBe_X6_notSo : GoodIn wsX6_mayBe wsX6_notSo := goodIn_r _ [24, 19, 20, 25, 26, 27, 28, 29, 30, 31, 32, 33, 34, 35, 36, 37, 38, 39, 40, 41, 42, 43, 44, 45] (by decide +kernel) (by decide +kernel)
set_option maxRecDepth 20000 in
theorem gX6_mayBe_X6_notSo : GoodIn wsX6_mayBe (wsV RX6 124 RX6 yX6_notSo wsX6_notSo) := goodIn_app (goodIn_of _ (by decide +kernel)) ggX6_mayBe_X6_notSo
theorem dX6_mayBe_0 : decode cX6_mayBe 0 = .ok (.aload_n 0, 1) := by decide +kernel
theorem dX6_mayBe_1 : decode cX6_mayBe 1 = .ok (.iload_n 2, 1) := by decide +kernel
theorem dX6_mayBe_2 : decode cX6_mayBe 2 = .ok (.invokevirtual 100, 3) := by decide +kernel
theorem dX6_mayBe_5 : decode cX6_mayBe 5 = .ok (.ifCond .eq 29, 3) := by decide +kernel
theorem dX6_mayBe_8 : decode cX6_mayBe 8 = .ok (.aload_n 0, 1) := by decide +kernel
theorem dX6_mayBe_9 : decode cX6_mayBe 9 = .ok (.iload_n 1, 1) := by decide +kernel
theorem dX6_mayBe_10 : decode cX6_mayBe 10 = .ok (.invokevirtual 121, 3) := by decide +kernel
theorem dX6_mayBe_13 : decode cX6_mayBe 13 = .ok (.iload_n 2, 1) := by decide +kernel
theorem dX6_mayBe_14 : decode cX6_mayBe 14 = .ok (.iconst (-1), 1) := by decide +kernel
theorem dX6_mayBe_15 : decode cX6_mayBe 15 = .ok (.ixor, 1) := by decide +kernel
theorem dX6_mayBe_16 : decode cX6_mayBe 16 = .ok (.iand, 1) := by decide +kernel
theorem dX6_mayBe_17 : decode cX6_mayBe 17 = .ok (.ifCond .ne 17, 3) := by decide +kernel
theorem dX6_mayBe_20 : decode cX6_mayBe 20 = .ok (.aload_n 0, 1) := by decide +kernel
theorem dX6_mayBe_21 : decode cX6_mayBe 21 = .ok (.iload_n 1, 1) := by decide +kernel
theorem dX6_mayBe_22 : decode cX6_mayBe 22 = .ok (.invokevirtual 124, 3) := by decide +kernel
theorem dX6_mayBe_25 : decode cX6_mayBe 25 = .ok (.iload_n 2, 1) := by decide +kernel
theorem dX6_mayBe_26 : decode cX6_mayBe 26 = .ok (.iand, 1) := by decide +kernel
theorem dX6_mayBe_27 : decode cX6_mayBe 27 = .ok (.ifCond .ne 7, 3) := by decide +kernel
theorem dX6_mayBe_30 : decode cX6_mayBe 30 = .ok (.iconst 1, 1) := by decide +kernel
theorem dX6_mayBe_31 : decode cX6_mayBe 31 = .ok (.goto 4, 3) := by decide +kernel
theorem dX6_mayBe_34 : decode cX6_mayBe 34 = .ok (.iconst 0, 1) := by decide +kernel
theorem dX6_mayBe_35 : decode cX6_mayBe 35 = .ok (.ireturn, 1) := by decide +kernel
set_option maxRecDepth 20000 in
theorem ggX6_mayBes_X6_allFacts : GoodIn wsX6_mayBes wsX6_allFacts := goodIn_r _ [5, 6, 47, 48, 49, 50, 51, 52, 53, 54, 55, 56, 57, 58, 59, 60, 61, 62, 63, 64, 65, 66, 67] (by decide +kernel) (by decide +kernel)
set_option maxRecDepth 20000 in
theorem gX6_mayBes_X6_allFacts : GoodIn wsX6_mayBes (wsV RX6 83 RX6 yX6_allFacts wsX6_allFacts) := goodIn_app (goodIn_of _ (by decide +kernel)) ggX6_mayBes_X6_allFacts
set_option maxRecDepth 20000 in
theorem ggX6_mayBes_X6_mayBe : GoodIn wsX6_mayBes wsX6_mayBe := goodIn_r _ [10, 11, 12, 13, 4, 14, 6, 15, 1, 2, 3, 5, 16, 17, 18, 19, 20, 21, 22, 23, 24, 25, 26, 27, 28, 47, 48, 49, 50, 51, 52, 53, 54, 55, 56, 57, 58, 59, 60, 61, 62, 63, 64, 65, 66, 67] (by decide +kernel) (by decide +kernel)
set_option maxRecDepth 20000 in
theorem gX6_mayBes_X6_mayBe : GoodIn wsX6_mayBes (wsV RX6 127 RX6 yX6_mayBe wsX6_mayBe) := goodIn_app (goodIn_of _ (by decide +kernel)) ggX6_mayBes_X6_mayBe
set_option maxRecDepth 20000 in
theorem ggX6_mayBes_X6_rulingFor : GoodIn wsX6_mayBes wsX6_rulingFor := goodIn_r _ [32, 33, 34, 35, 36, 4, 37, 38, 39, 40, 41, 42, 43, 44, 45, 46, 47, 48, 49, 50, 51, 52, 53, 54, 55, 56, 57, 58, 59, 60, 61, 62, 63, 64, 65, 66, 67] (by decide +kernel) (by decide +kernel)
set_option maxRecDepth 20000 in
theorem gX6_mayBes_X6_rulingFor : GoodIn wsX6_mayBes (wsV RX6 109 RX6 yX6_rulingFor wsX6_rulingFor) := goodIn_app (goodIn_of _ (by decide +kernel)) ggX6_mayBes_X6_rulingFor
theorem dX6_mayBes_0 : decode cX6_mayBes 0 = .ok (.iconst 0, 1) := by decide +kernel
theorem dX6_mayBes_1 : decode cX6_mayBes 1 = .ok (.istore_n 3, 1) := by decide +kernel
theorem dX6_mayBes_2 : decode cX6_mayBes 2 = .ok (.iconst 0, 1) := by decide +kernel
theorem dX6_mayBes_3 : decode cX6_mayBes 3 = .ok (.istore 4, 2) := by decide +kernel
theorem dX6_mayBes_5 : decode cX6_mayBes 5 = .ok (.iload 4, 2) := by decide +kernel
theorem dX6_mayBes_7 : decode cX6_mayBes 7 = .ok (.aload_n 0, 1) := by decide +kernel
theorem dX6_mayBes_8 : decode cX6_mayBes 8 = .ok (.invokevirtual 83, 3) := by decide +kernel
theorem dX6_mayBes_11 : decode cX6_mayBes 11 = .ok (.if_icmp .gt 41, 3) := by decide +kernel
theorem dX6_mayBes_14 : decode cX6_mayBes 14 = .ok (.iload_n 3, 1) := by decide +kernel
theorem dX6_mayBes_15 : decode cX6_mayBes 15 = .ok (.aload_n 0, 1) := by decide +kernel
theorem dX6_mayBes_16 : decode cX6_mayBes 16 = .ok (.iload_n 1, 1) := by decide +kernel
theorem dX6_mayBes_17 : decode cX6_mayBes 17 = .ok (.iload 4, 2) := by decide +kernel
theorem dX6_mayBes_19 : decode cX6_mayBes 19 = .ok (.invokevirtual 127, 3) := by decide +kernel
theorem dX6_mayBes_22 : decode cX6_mayBes 22 = .ok (.ifCond .eq 21, 3) := by decide +kernel
theorem dX6_mayBes_25 : decode cX6_mayBes 25 = .ok (.iload_n 2, 1) := by decide +kernel
theorem dX6_mayBes_26 : decode cX6_mayBes 26 = .ok (.ifCond .lt 13, 3) := by decide +kernel
theorem dX6_mayBes_29 : decode cX6_mayBes 29 = .ok (.aload_n 0, 1) := by decide +kernel
theorem dX6_mayBes_30 : decode cX6_mayBes 30 = .ok (.iload 4, 2) := by decide +kernel
theorem dX6_mayBes_32 : decode cX6_mayBes 32 = .ok (.invokevirtual 109, 3) := by decide +kernel
theorem dX6_mayBes_35 : decode cX6_mayBes 35 = .ok (.iload_n 2, 1) := by decide +kernel
theorem dX6_mayBes_36 : decode cX6_mayBes 36 = .ok (.if_icmp .ne 7, 3) := by decide +kernel
theorem dX6_mayBes_39 : decode cX6_mayBes 39 = .ok (.iconst 1, 1) := by decide +kernel
theorem dX6_mayBes_40 : decode cX6_mayBes 40 = .ok (.goto 4, 3) := by decide +kernel
theorem dX6_mayBes_43 : decode cX6_mayBes 43 = .ok (.iconst 0, 1) := by decide +kernel
theorem dX6_mayBes_44 : decode cX6_mayBes 44 = .ok (.iadd, 1) := by decide +kernel
theorem dX6_mayBes_45 : decode cX6_mayBes 45 = .ok (.istore_n 3, 1) := by decide +kernel
theorem dX6_mayBes_46 : decode cX6_mayBes 46 = .ok (.iinc 4 1, 3) := by decide +kernel
theorem dX6_mayBes_49 : decode cX6_mayBes 49 = .ok (.goto (-44), 3) := by decide +kernel
theorem dX6_mayBes_52 : decode cX6_mayBes 52 = .ok (.iload_n 3, 1) := by decide +kernel
theorem dX6_mayBes_53 : decode cX6_mayBes 53 = .ok (.ireturn, 1) := by decide +kernel
set_option maxRecDepth 20000 in
theorem ggX6_known_X6_isMoment : GoodIn wsX6_known wsX6_isMoment := goodIn_r _ [5, 6, 7, 8, 4, 9, 60, 61, 62, 63, 64, 65, 66, 67, 68, 69, 70, 71, 72, 73, 74, 75, 76, 77, 78, 79, 80] (by decide +kernel) (by decide +kernel)
set_option maxRecDepth 20000 in
theorem gX6_known_X6_isMoment : GoodIn wsX6_known (wsV RX6 118 RX6 yX6_isMoment wsX6_isMoment) := goodIn_app (goodIn_of _ (by decide +kernel)) ggX6_known_X6_isMoment
set_option maxRecDepth 20000 in
theorem ggX6_known_X6_so : GoodIn wsX6_known wsX6_so := goodIn_r _ [13, 14, 15, 60, 61, 62, 63, 64, 65, 66, 67, 68, 69, 70, 71, 72, 73, 74, 75, 76, 77, 78, 79, 80] (by decide +kernel) (by decide +kernel)
set_option maxRecDepth 20000 in
theorem gX6_known_X6_so : GoodIn wsX6_known (wsV RX6 121 RX6 yX6_so wsX6_so) := goodIn_app (goodIn_of _ (by decide +kernel)) ggX6_known_X6_so
set_option maxRecDepth 20000 in
theorem ggX6_known_X6_notSo : GoodIn wsX6_known wsX6_notSo := goodIn_r _ [19, 14, 15, 60, 61, 62, 63, 64, 65, 66, 67, 68, 69, 70, 71, 72, 73, 74, 75, 76, 77, 78, 79, 80] (by decide +kernel) (by decide +kernel)
set_option maxRecDepth 20000 in
theorem gX6_known_X6_notSo : GoodIn wsX6_known (wsV RX6 124 RX6 yX6_notSo wsX6_notSo) := goodIn_app (goodIn_of _ (by decide +kernel)) ggX6_known_X6_notSo
set_option maxRecDepth 20000 in
theorem ggX6_known_X6_doubt : GoodIn wsX6_known wsX6_doubt := goodIn_r _ [23, 24, 25, 26, 4, 27, 28, 10, 11, 12, 13, 14, 15, 16, 17, 18, 19, 60, 61, 62, 63, 64, 65, 66, 67, 68, 69, 70, 71, 72, 73, 74, 75, 76, 77, 78, 79, 80] (by decide +kernel) (by decide +kernel)
set_option maxRecDepth 20000 in
theorem gX6_known_X6_doubt : GoodIn wsX6_known (wsV RX6 131 RX6 yX6_doubt wsX6_doubt) := goodIn_app (goodIn_of _ (by decide +kernel)) ggX6_known_X6_doubt
set_option maxRecDepth 20000 in
theorem ggX6_known_X6_mayBes : GoodIn wsX6_known wsX6_mayBes := goodIn_r _ [32, 24, 25, 26, 4, 27, 28, 33, 34, 35, 36, 37, 38, 39, 40, 41, 7, 8, 9, 10, 11, 12, 13, 14, 15, 16, 17, 18, 19, 42, 43, 44, 45, 46, 47, 48, 49, 50, 51, 52, 53, 54, 55, 56, 57, 58, 59, 60, 61, 62, 63, 64, 65, 66, 67, 68, 69, 70, 71, 72, 73, 74, 75, 76, 77, 78, 79, 80] (by decide +kernel) (by decide +kernel)
set_option maxRecDepth 20000 in
theorem gX6_known_X6_mayBes : GoodIn wsX6_known (wsV RX6 134 RX6 yX6_mayBes wsX6_mayBes) := goodIn_app (goodIn_of _ (by decide +kernel)) ggX6_known_X6_mayBes
theorem dX6_known_0 : decode cX6_known 0 = .ok (.aload_n 0, 1) := by decide +kernel
theorem dX6_known_1 : decode cX6_known 1 = .ok (.iload_n 1, 1) := by decide +kernel
theorem dX6_known_2 : decode cX6_known 2 = .ok (.invokevirtual 118, 3) := by decide +kernel
theorem dX6_known_5 : decode cX6_known 5 = .ok (.ifCond .ne 5, 3) := by decide +kernel
theorem dX6_known_8 : decode cX6_known 8 = .ok (.iconst (-1), 1) := by decide +kernel
theorem dX6_known_9 : decode cX6_known 9 = .ok (.ireturn, 1) := by decide +kernel
theorem dX6_known_10 : decode cX6_known 10 = .ok (.iload_n 2, 1) := by decide +kernel
theorem dX6_known_11 : decode cX6_known 11 = .ok (.ifCond .ne 11, 3) := by decide +kernel
theorem dX6_known_14 : decode cX6_known 14 = .ok (.aload_n 0, 1) := by decide +kernel
theorem dX6_known_15 : decode cX6_known 15 = .ok (.iload_n 1, 1) := by decide +kernel
theorem dX6_known_16 : decode cX6_known 16 = .ok (.invokevirtual 121, 3) := by decide +kernel
theorem dX6_known_19 : decode cX6_known 19 = .ok (.goto 45, 3) := by decide +kernel
theorem dX6_known_22 : decode cX6_known 22 = .ok (.iload_n 2, 1) := by decide +kernel
theorem dX6_known_23 : decode cX6_known 23 = .ok (.iconst 1, 1) := by decide +kernel
theorem dX6_known_24 : decode cX6_known 24 = .ok (.if_icmp .ne 11, 3) := by decide +kernel
theorem dX6_known_27 : decode cX6_known 27 = .ok (.aload_n 0, 1) := by decide +kernel
theorem dX6_known_28 : decode cX6_known 28 = .ok (.iload_n 1, 1) := by decide +kernel
theorem dX6_known_29 : decode cX6_known 29 = .ok (.invokevirtual 124, 3) := by decide +kernel
theorem dX6_known_32 : decode cX6_known 32 = .ok (.goto 32, 3) := by decide +kernel
theorem dX6_known_35 : decode cX6_known 35 = .ok (.iload_n 2, 1) := by decide +kernel
theorem dX6_known_36 : decode cX6_known 36 = .ok (.iconst 2, 1) := by decide +kernel
theorem dX6_known_37 : decode cX6_known 37 = .ok (.if_icmp .ne 11, 3) := by decide +kernel
theorem dX6_known_40 : decode cX6_known 40 = .ok (.aload_n 0, 1) := by decide +kernel
theorem dX6_known_41 : decode cX6_known 41 = .ok (.iload_n 1, 1) := by decide +kernel
theorem dX6_known_42 : decode cX6_known 42 = .ok (.invokevirtual 131, 3) := by decide +kernel
theorem dX6_known_45 : decode cX6_known 45 = .ok (.goto 19, 3) := by decide +kernel
theorem dX6_known_48 : decode cX6_known 48 = .ok (.iload_n 2, 1) := by decide +kernel
theorem dX6_known_49 : decode cX6_known 49 = .ok (.iconst 3, 1) := by decide +kernel
theorem dX6_known_50 : decode cX6_known 50 = .ok (.if_icmp .ne 12, 3) := by decide +kernel
theorem dX6_known_53 : decode cX6_known 53 = .ok (.aload_n 0, 1) := by decide +kernel
theorem dX6_known_54 : decode cX6_known 54 = .ok (.iload_n 1, 1) := by decide +kernel
theorem dX6_known_55 : decode cX6_known 55 = .ok (.iconst (-1), 1) := by decide +kernel
theorem dX6_known_56 : decode cX6_known 56 = .ok (.invokevirtual 134, 3) := by decide +kernel
theorem dX6_known_59 : decode cX6_known 59 = .ok (.goto 5, 3) := by decide +kernel
theorem dX6_known_62 : decode cX6_known 62 = .ok (.bipush (-2), 2) := by decide +kernel
theorem dX6_known_64 : decode cX6_known 64 = .ok (.ireturn, 1) := by decide +kernel
set_option maxRecDepth 20000 in
theorem ggX6_proof_X6_isMoment : GoodIn wsX6_proof wsX6_isMoment := goodIn_r _ [5, 6, 7, 8, 4, 9, 59, 60, 61, 62, 63, 64, 65, 66, 67, 68, 69, 70, 71, 72, 73, 74, 75, 76, 77, 78, 79] (by decide +kernel) (by decide +kernel)
set_option maxRecDepth 20000 in
theorem gX6_proof_X6_isMoment : GoodIn wsX6_proof (wsV RX6 118 RX6 yX6_isMoment wsX6_isMoment) := goodIn_app (goodIn_of _ (by decide +kernel)) ggX6_proof_X6_isMoment
set_option maxRecDepth 20000 in
theorem ggX6_proof_X6_isRuling : GoodIn wsX6_proof wsX6_isRuling := goodIn_r _ [12, 7, 8, 4, 9] (by decide +kernel) (by decide +kernel)
set_option maxRecDepth 20000 in
theorem gX6_proof_X6_isRuling : GoodIn wsX6_proof (va_wsS RX6 87 yX6_isRuling wsX6_isRuling) := goodIn_app (goodIn_of _ (by decide +kernel)) ggX6_proof_X6_isRuling
set_option maxRecDepth 20000 in
theorem ggX6_proof_X6_mayBes : GoodIn wsX6_proof wsX6_mayBes := goodIn_r _ [16, 17, 18, 19, 4, 20, 21, 22, 23, 24, 25, 26, 27, 28, 29, 30, 7, 8, 9, 31, 32, 33, 34, 35, 36, 37, 38, 39, 40, 41, 42, 43, 44, 45, 46, 47, 48, 49, 50, 51, 52, 53, 54, 55, 56, 57, 58, 59, 60, 61, 62, 63, 64, 65, 66, 67, 68, 69, 70, 71, 72, 73, 74, 75, 76, 77, 78, 79] (by decide +kernel) (by decide +kernel)
set_option maxRecDepth 20000 in
theorem gX6_proof_X6_mayBes : GoodIn wsX6_proof (wsV RX6 134 RX6 yX6_mayBes wsX6_mayBes) := goodIn_app (goodIn_of _ (by decide +kernel)) ggX6_proof_X6_mayBes
theorem dX6_proof_0 : decode cX6_proof 0 = .ok (.aload_n 0, 1) := by decide +kernel
theorem dX6_proof_1 : decode cX6_proof 1 = .ok (.iload_n 1, 1) := by decide +kernel
theorem dX6_proof_2 : decode cX6_proof 2 = .ok (.invokevirtual 118, 3) := by decide +kernel
theorem dX6_proof_5 : decode cX6_proof 5 = .ok (.ifCond .ne 5, 3) := by decide +kernel
theorem dX6_proof_8 : decode cX6_proof 8 = .ok (.iconst (-1), 1) := by decide +kernel
theorem dX6_proof_9 : decode cX6_proof 9 = .ok (.ireturn, 1) := by decide +kernel
theorem dX6_proof_10 : decode cX6_proof 10 = .ok (.iload_n 2, 1) := by decide +kernel
theorem dX6_proof_11 : decode cX6_proof 11 = .ok (.invokestatic 87, 3) := by decide +kernel
theorem dX6_proof_14 : decode cX6_proof 14 = .ok (.ifCond .ne 6, 3) := by decide +kernel
theorem dX6_proof_17 : decode cX6_proof 17 = .ok (.bipush (-2), 2) := by decide +kernel
theorem dX6_proof_19 : decode cX6_proof 19 = .ok (.ireturn, 1) := by decide +kernel
theorem dX6_proof_20 : decode cX6_proof 20 = .ok (.aload_n 0, 1) := by decide +kernel
theorem dX6_proof_21 : decode cX6_proof 21 = .ok (.iload_n 1, 1) := by decide +kernel
theorem dX6_proof_22 : decode cX6_proof 22 = .ok (.iload_n 2, 1) := by decide +kernel
theorem dX6_proof_23 : decode cX6_proof 23 = .ok (.invokevirtual 134, 3) := by decide +kernel
theorem dX6_proof_26 : decode cX6_proof 26 = .ok (.istore_n 3, 1) := by decide +kernel
theorem dX6_proof_27 : decode cX6_proof 27 = .ok (.iload_n 3, 1) := by decide +kernel
theorem dX6_proof_28 : decode cX6_proof 28 = .ok (.ifCond .ne 7, 3) := by decide +kernel
theorem dX6_proof_31 : decode cX6_proof 31 = .ok (.iconst 0, 1) := by decide +kernel
theorem dX6_proof_32 : decode cX6_proof 32 = .ok (.goto 18, 3) := by decide +kernel
theorem dX6_proof_35 : decode cX6_proof 35 = .ok (.iload_n 3, 1) := by decide +kernel
theorem dX6_proof_36 : decode cX6_proof 36 = .ok (.aload_n 0, 1) := by decide +kernel
theorem dX6_proof_37 : decode cX6_proof 37 = .ok (.iload_n 1, 1) := by decide +kernel
theorem dX6_proof_38 : decode cX6_proof 38 = .ok (.iconst (-1), 1) := by decide +kernel
theorem dX6_proof_39 : decode cX6_proof 39 = .ok (.invokevirtual 134, 3) := by decide +kernel
theorem dX6_proof_42 : decode cX6_proof 42 = .ok (.if_icmp .ne 7, 3) := by decide +kernel
theorem dX6_proof_45 : decode cX6_proof 45 = .ok (.iconst 2, 1) := by decide +kernel
theorem dX6_proof_46 : decode cX6_proof 46 = .ok (.goto 4, 3) := by decide +kernel
theorem dX6_proof_49 : decode cX6_proof 49 = .ok (.iconst 1, 1) := by decide +kernel
theorem dX6_proof_50 : decode cX6_proof 50 = .ok (.ireturn, 1) := by decide +kernel
set_option maxRecDepth 20000 in
theorem ggX6_bindingCase_X6_doubt : GoodIn wsX6_bindingCase wsX6_doubt := goodIn_r _ [8, 9, 10, 11, 7, 12, 13, 14, 15, 16, 17, 18, 19, 20, 21, 22, 23, 24, 25, 26, 27, 28, 29, 30, 31, 32, 33, 34, 35, 36, 37, 38, 39, 40, 41, 42, 43, 44] (by decide +kernel) (by decide +kernel)
set_option maxRecDepth 20000 in
theorem gX6_bindingCase_X6_doubt : GoodIn wsX6_bindingCase (wsV RX6 131 RX6 yX6_doubt wsX6_doubt) := goodIn_app (goodIn_of _ (by decide +kernel)) ggX6_bindingCase_X6_doubt
set_option maxRecDepth 20000 in
theorem ggX6_bindingCase_X6_so : GoodIn wsX6_bindingCase wsX6_so := goodIn_r _ [17, 18, 19, 24, 25, 26, 27, 28, 29, 30, 31, 32, 33, 34, 35, 36, 37, 38, 39, 40, 41, 42, 43, 44] (by decide +kernel) (by decide +kernel)
set_option maxRecDepth 20000 in
theorem gX6_bindingCase_X6_so : GoodIn wsX6_bindingCase (wsV RX6 121 RX6 yX6_so wsX6_so) := goodIn_app (goodIn_of _ (by decide +kernel)) ggX6_bindingCase_X6_so
theorem dX6_bindingCase_0 : decode cX6_bindingCase 0 = .ok (.iconst 0, 1) := by decide +kernel
theorem dX6_bindingCase_1 : decode cX6_bindingCase 1 = .ok (.istore_n 2, 1) := by decide +kernel
theorem dX6_bindingCase_2 : decode cX6_bindingCase 2 = .ok (.iload_n 2, 1) := by decide +kernel
theorem dX6_bindingCase_3 : decode cX6_bindingCase 3 = .ok (.aload_n 0, 1) := by decide +kernel
theorem dX6_bindingCase_4 : decode cX6_bindingCase 4 = .ok (.getfield 76, 3) := by decide +kernel
theorem dX6_bindingCase_7 : decode cX6_bindingCase 7 = .ok (.if_icmp .ge 45, 3) := by decide +kernel
theorem dX6_bindingCase_10 : decode cX6_bindingCase 10 = .ok (.aload_n 0, 1) := by decide +kernel
theorem dX6_bindingCase_11 : decode cX6_bindingCase 11 = .ok (.getfield 48, 3) := by decide +kernel
theorem dX6_bindingCase_14 : decode cX6_bindingCase 14 = .ok (.iload_n 2, 1) := by decide +kernel
theorem dX6_bindingCase_15 : decode cX6_bindingCase 15 = .ok (.iaload, 1) := by decide +kernel
theorem dX6_bindingCase_16 : decode cX6_bindingCase 16 = .ok (.istore_n 3, 1) := by decide +kernel
theorem dX6_bindingCase_17 : decode cX6_bindingCase 17 = .ok (.iload_n 3, 1) := by decide +kernel
theorem dX6_bindingCase_18 : decode cX6_bindingCase 18 = .ok (.aload_n 0, 1) := by decide +kernel
theorem dX6_bindingCase_19 : decode cX6_bindingCase 19 = .ok (.iload_n 1, 1) := by decide +kernel
theorem dX6_bindingCase_20 : decode cX6_bindingCase 20 = .ok (.invokevirtual 131, 3) := by decide +kernel
theorem dX6_bindingCase_23 : decode cX6_bindingCase 23 = .ok (.iand, 1) := by decide +kernel
theorem dX6_bindingCase_24 : decode cX6_bindingCase 24 = .ok (.ifCond .ne 22, 3) := by decide +kernel
theorem dX6_bindingCase_27 : decode cX6_bindingCase 27 = .ok (.aload_n 0, 1) := by decide +kernel
theorem dX6_bindingCase_28 : decode cX6_bindingCase 28 = .ok (.iload_n 1, 1) := by decide +kernel
theorem dX6_bindingCase_29 : decode cX6_bindingCase 29 = .ok (.invokevirtual 121, 3) := by decide +kernel
theorem dX6_bindingCase_32 : decode cX6_bindingCase 32 = .ok (.aload_n 0, 1) := by decide +kernel
theorem dX6_bindingCase_33 : decode cX6_bindingCase 33 = .ok (.getfield 42, 3) := by decide +kernel
theorem dX6_bindingCase_36 : decode cX6_bindingCase 36 = .ok (.iload_n 2, 1) := by decide +kernel
theorem dX6_bindingCase_37 : decode cX6_bindingCase 37 = .ok (.iaload, 1) := by decide +kernel
theorem dX6_bindingCase_38 : decode cX6_bindingCase 38 = .ok (.ixor, 1) := by decide +kernel
theorem dX6_bindingCase_39 : decode cX6_bindingCase 39 = .ok (.iload_n 3, 1) := by decide +kernel
theorem dX6_bindingCase_40 : decode cX6_bindingCase 40 = .ok (.iand, 1) := by decide +kernel
theorem dX6_bindingCase_41 : decode cX6_bindingCase 41 = .ok (.ifCond .ne 5, 3) := by decide +kernel
theorem dX6_bindingCase_44 : decode cX6_bindingCase 44 = .ok (.iload_n 2, 1) := by decide +kernel
theorem dX6_bindingCase_45 : decode cX6_bindingCase 45 = .ok (.ireturn, 1) := by decide +kernel
theorem dX6_bindingCase_46 : decode cX6_bindingCase 46 = .ok (.iinc 2 1, 3) := by decide +kernel
theorem dX6_bindingCase_49 : decode cX6_bindingCase 49 = .ok (.goto (-47), 3) := by decide +kernel
theorem dX6_bindingCase_52 : decode cX6_bindingCase 52 = .ok (.bipush (-6), 2) := by decide +kernel
theorem dX6_bindingCase_54 : decode cX6_bindingCase 54 = .ok (.ireturn, 1) := by decide +kernel
set_option maxRecDepth 20000 in
theorem ggX6_binds_X6_isMoment : GoodIn wsX6_binds wsX6_isMoment := goodIn_r _ [5, 6, 7, 8, 4, 9, 36, 37, 38, 39, 40, 41, 42, 43, 44, 45, 46, 47, 48, 49, 50, 51, 52, 53, 54, 55, 56] (by decide +kernel) (by decide +kernel)
set_option maxRecDepth 20000 in
theorem gX6_binds_X6_isMoment : GoodIn wsX6_binds (wsV RX6 118 RX6 yX6_isMoment wsX6_isMoment) := goodIn_app (goodIn_of _ (by decide +kernel)) ggX6_binds_X6_isMoment
set_option maxRecDepth 20000 in
theorem ggX6_binds_X6_bindingCase : GoodIn wsX6_binds wsX6_bindingCase := goodIn_r _ [13, 14, 15, 16, 17, 18, 19, 4, 20, 21, 22, 23, 24, 25, 26, 27, 28, 29, 30, 31, 32, 33, 34, 35, 36, 37, 38, 39, 40, 41, 42, 43, 44, 45, 46, 47, 48, 49, 50, 51, 52, 53, 54, 55, 56] (by decide +kernel) (by decide +kernel)
set_option maxRecDepth 20000 in
theorem gX6_binds_X6_bindingCase : GoodIn wsX6_binds (wsV RX6 138 RX6 yX6_bindingCase wsX6_bindingCase) := goodIn_app (goodIn_of _ (by decide +kernel)) ggX6_binds_X6_bindingCase
theorem dX6_binds_0 : decode cX6_binds 0 = .ok (.aload_n 0, 1) := by decide +kernel
theorem dX6_binds_1 : decode cX6_binds 1 = .ok (.iload_n 1, 1) := by decide +kernel
theorem dX6_binds_2 : decode cX6_binds 2 = .ok (.invokevirtual 118, 3) := by decide +kernel
theorem dX6_binds_5 : decode cX6_binds 5 = .ok (.ifCond .eq 11, 3) := by decide +kernel
theorem dX6_binds_8 : decode cX6_binds 8 = .ok (.aload_n 0, 1) := by decide +kernel
theorem dX6_binds_9 : decode cX6_binds 9 = .ok (.iload_n 1, 1) := by decide +kernel
theorem dX6_binds_10 : decode cX6_binds 10 = .ok (.invokevirtual 138, 3) := by decide +kernel
theorem dX6_binds_13 : decode cX6_binds 13 = .ok (.goto 4, 3) := by decide +kernel
theorem dX6_binds_16 : decode cX6_binds 16 = .ok (.iconst (-1), 1) := by decide +kernel
theorem dX6_binds_17 : decode cX6_binds 17 = .ok (.ireturn, 1) := by decide +kernel
set_option maxRecDepth 20000 in
theorem ggX6_verdictOf_X6_mayBes : GoodIn wsX6_verdictOf wsX6_mayBes := goodIn_r _ [7, 8, 9, 10, 6, 11, 12, 13, 14, 15, 16, 17, 18, 19, 20, 21, 22, 23, 24, 25, 26, 27, 28, 29, 30, 31, 32, 33, 34, 35, 36, 37, 38, 39, 40, 41, 42, 43, 44, 45, 46, 47, 48, 49, 50, 51, 52, 64, 65, 66, 67, 68, 69, 70, 71, 72, 73, 74, 75, 76, 77, 78, 79, 80, 81, 82, 83, 84] (by decide +kernel) (by decide +kernel)
set_option maxRecDepth 20000 in
theorem gX6_verdictOf_X6_mayBes : GoodIn wsX6_verdictOf (wsV RX6 134 RX6 yX6_mayBes wsX6_mayBes) := goodIn_app (goodIn_of _ (by decide +kernel)) ggX6_verdictOf_X6_mayBes
set_option maxRecDepth 20000 in
theorem ggX6_verdictOf_X6_bindingCase : GoodIn wsX6_verdictOf wsX6_bindingCase := goodIn_r _ [56, 57, 58, 59, 60, 61, 62, 6, 63, 8, 9, 10, 11, 12, 25, 26, 27, 28, 29, 30, 31, 32, 33, 34, 64, 65, 66, 67, 68, 69, 70, 71, 72, 73, 74, 75, 76, 77, 78, 79, 80, 81, 82, 83, 84] (by decide +kernel) (by decide +kernel)
set_option maxRecDepth 20000 in
theorem gX6_verdictOf_X6_bindingCase : GoodIn wsX6_verdictOf (wsV RX6 138 RX6 yX6_bindingCase wsX6_bindingCase) := goodIn_app (goodIn_of _ (by decide +kernel)) ggX6_verdictOf_X6_bindingCase
theorem dX6_verdictOf_0 : decode cX6_verdictOf 0 = .ok (.aload_n 0, 1) := by decide +kernel
theorem dX6_verdictOf_1 : decode cX6_verdictOf 1 = .ok (.getfield 39, 3) := by decide +kernel
theorem dX6_verdictOf_4 : decode cX6_verdictOf 4 = .ok (.iload_n 1, 1) := by decide +kernel
theorem dX6_verdictOf_5 : decode cX6_verdictOf 5 = .ok (.iaload, 1) := by decide +kernel
theorem dX6_verdictOf_6 : decode cX6_verdictOf 6 = .ok (.ifCond .lt 10, 3) := by decide +kernel
theorem dX6_verdictOf_9 : decode cX6_verdictOf 9 = .ok (.aload_n 0, 1) := by decide +kernel
theorem dX6_verdictOf_10 : decode cX6_verdictOf 10 = .ok (.getfield 39, 3) := by decide +kernel
theorem dX6_verdictOf_13 : decode cX6_verdictOf 13 = .ok (.iload_n 1, 1) := by decide +kernel
theorem dX6_verdictOf_14 : decode cX6_verdictOf 14 = .ok (.iaload, 1) := by decide +kernel
theorem dX6_verdictOf_15 : decode cX6_verdictOf 15 = .ok (.ireturn, 1) := by decide +kernel
theorem dX6_verdictOf_16 : decode cX6_verdictOf 16 = .ok (.aload_n 0, 1) := by decide +kernel
theorem dX6_verdictOf_17 : decode cX6_verdictOf 17 = .ok (.iload_n 1, 1) := by decide +kernel
theorem dX6_verdictOf_18 : decode cX6_verdictOf 18 = .ok (.iconst (-1), 1) := by decide +kernel
theorem dX6_verdictOf_19 : decode cX6_verdictOf 19 = .ok (.invokevirtual 134, 3) := by decide +kernel
theorem dX6_verdictOf_22 : decode cX6_verdictOf 22 = .ok (.istore_n 2, 1) := by decide +kernel
theorem dX6_verdictOf_23 : decode cX6_verdictOf 23 = .ok (.iload_n 2, 1) := by decide +kernel
theorem dX6_verdictOf_24 : decode cX6_verdictOf 24 = .ok (.ifCond .ne 5, 3) := by decide +kernel
theorem dX6_verdictOf_27 : decode cX6_verdictOf 27 = .ok (.iconst 0, 1) := by decide +kernel
theorem dX6_verdictOf_28 : decode cX6_verdictOf 28 = .ok (.ireturn, 1) := by decide +kernel
theorem dX6_verdictOf_29 : decode cX6_verdictOf 29 = .ok (.aload_n 0, 1) := by decide +kernel
theorem dX6_verdictOf_30 : decode cX6_verdictOf 30 = .ok (.iload_n 1, 1) := by decide +kernel
theorem dX6_verdictOf_31 : decode cX6_verdictOf 31 = .ok (.invokevirtual 138, 3) := by decide +kernel
theorem dX6_verdictOf_34 : decode cX6_verdictOf 34 = .ok (.istore_n 3, 1) := by decide +kernel
theorem dX6_verdictOf_35 : decode cX6_verdictOf 35 = .ok (.iload_n 3, 1) := by decide +kernel
theorem dX6_verdictOf_36 : decode cX6_verdictOf 36 = .ok (.ifCond .lt 10, 3) := by decide +kernel
theorem dX6_verdictOf_39 : decode cX6_verdictOf 39 = .ok (.aload_n 0, 1) := by decide +kernel
theorem dX6_verdictOf_40 : decode cX6_verdictOf 40 = .ok (.getfield 45, 3) := by decide +kernel
theorem dX6_verdictOf_43 : decode cX6_verdictOf 43 = .ok (.iload_n 3, 1) := by decide +kernel
theorem dX6_verdictOf_44 : decode cX6_verdictOf 44 = .ok (.iaload, 1) := by decide +kernel
theorem dX6_verdictOf_45 : decode cX6_verdictOf 45 = .ok (.ireturn, 1) := by decide +kernel
theorem dX6_verdictOf_46 : decode cX6_verdictOf 46 = .ok (.iconst 0, 1) := by decide +kernel
theorem dX6_verdictOf_47 : decode cX6_verdictOf 47 = .ok (.istore 4, 2) := by decide +kernel
theorem dX6_verdictOf_49 : decode cX6_verdictOf 49 = .ok (.iload 4, 2) := by decide +kernel
theorem dX6_verdictOf_51 : decode cX6_verdictOf 51 = .ok (.iconst 5, 1) := by decide +kernel
theorem dX6_verdictOf_52 : decode cX6_verdictOf 52 = .ok (.if_icmp .ge 23, 3) := by decide +kernel
theorem dX6_verdictOf_55 : decode cX6_verdictOf 55 = .ok (.aload_n 0, 1) := by decide +kernel
theorem dX6_verdictOf_56 : decode cX6_verdictOf 56 = .ok (.iload_n 1, 1) := by decide +kernel
theorem dX6_verdictOf_57 : decode cX6_verdictOf 57 = .ok (.iload 4, 2) := by decide +kernel
theorem dX6_verdictOf_59 : decode cX6_verdictOf 59 = .ok (.invokevirtual 134, 3) := by decide +kernel
theorem dX6_verdictOf_62 : decode cX6_verdictOf 62 = .ok (.iload_n 2, 1) := by decide +kernel
theorem dX6_verdictOf_63 : decode cX6_verdictOf 63 = .ok (.if_icmp .ne 6, 3) := by decide +kernel
theorem dX6_verdictOf_66 : decode cX6_verdictOf 66 = .ok (.iload 4, 2) := by decide +kernel
theorem dX6_verdictOf_68 : decode cX6_verdictOf 68 = .ok (.ireturn, 1) := by decide +kernel
theorem dX6_verdictOf_69 : decode cX6_verdictOf 69 = .ok (.iinc 4 1, 3) := by decide +kernel
theorem dX6_verdictOf_72 : decode cX6_verdictOf 72 = .ok (.goto (-23), 3) := by decide +kernel
theorem dX6_verdictOf_75 : decode cX6_verdictOf 75 = .ok (.iconst 0, 1) := by decide +kernel
theorem dX6_verdictOf_76 : decode cX6_verdictOf 76 = .ok (.ireturn, 1) := by decide +kernel
set_option maxRecDepth 20000 in
theorem ggX6_verdict_X6_isMoment : GoodIn wsX6_verdict wsX6_isMoment := goodIn_r _ [5, 6, 7, 8, 4, 9, 73, 74, 75, 76, 77, 78, 79, 80, 81, 82, 83, 84, 85, 86, 87, 88, 89, 90, 91, 92, 93] (by decide +kernel) (by decide +kernel)
set_option maxRecDepth 20000 in
theorem gX6_verdict_X6_isMoment : GoodIn wsX6_verdict (wsV RX6 118 RX6 yX6_isMoment wsX6_isMoment) := goodIn_app (goodIn_of _ (by decide +kernel)) ggX6_verdict_X6_isMoment
set_option maxRecDepth 20000 in
theorem ggX6_verdict_X6_verdictOf : GoodIn wsX6_verdict wsX6_verdictOf := goodIn_r _ [13, 14, 15, 16, 17, 18, 4, 19, 20, 21, 22, 23, 24, 25, 26, 27, 28, 29, 30, 31, 32, 33, 7, 8, 9, 34, 35, 36, 37, 38, 39, 40, 41, 42, 43, 44, 45, 46, 47, 48, 49, 50, 51, 52, 53, 54, 55, 56, 57, 58, 59, 60, 61, 62, 63, 64, 65, 66, 67, 68, 69, 70, 71, 72, 73, 74, 75, 76, 77, 78, 79, 80, 81, 82, 83, 84, 85, 86, 87, 88, 89, 90, 91, 92, 93] (by decide +kernel) (by decide +kernel)
set_option maxRecDepth 20000 in
theorem gX6_verdict_X6_verdictOf : GoodIn wsX6_verdict (wsV RX6 141 RX6 yX6_verdictOf wsX6_verdictOf) := goodIn_app (goodIn_of _ (by decide +kernel)) ggX6_verdict_X6_verdictOf
theorem dX6_verdict_0 : decode cX6_verdict 0 = .ok (.aload_n 0, 1) := by decide +kernel
theorem dX6_verdict_1 : decode cX6_verdict 1 = .ok (.iload_n 1, 1) := by decide +kernel
theorem dX6_verdict_2 : decode cX6_verdict 2 = .ok (.invokevirtual 118, 3) := by decide +kernel
theorem dX6_verdict_5 : decode cX6_verdict 5 = .ok (.ifCond .eq 11, 3) := by decide +kernel
theorem dX6_verdict_8 : decode cX6_verdict 8 = .ok (.aload_n 0, 1) := by decide +kernel
theorem dX6_verdict_9 : decode cX6_verdict 9 = .ok (.iload_n 1, 1) := by decide +kernel
theorem dX6_verdict_10 : decode cX6_verdict 10 = .ok (.invokevirtual 141, 3) := by decide +kernel
theorem dX6_verdict_13 : decode cX6_verdict 13 = .ok (.goto 4, 3) := by decide +kernel
theorem dX6_verdict_16 : decode cX6_verdict 16 = .ok (.iconst (-1), 1) := by decide +kernel
theorem dX6_verdict_17 : decode cX6_verdict 17 = .ok (.ireturn, 1) := by decide +kernel
set_option maxRecDepth 20000 in
theorem ggX6_rule_X6_isMoment : GoodIn wsX6_rule wsX6_isMoment := goodIn_r _ [6, 7, 8, 9, 5, 10, 76, 77, 78, 79, 80, 81, 82, 83, 84, 85, 86, 87, 88, 89, 90, 91, 92, 93, 94, 95, 96] (by decide +kernel) (by decide +kernel)
set_option maxRecDepth 20000 in
theorem gX6_rule_X6_isMoment : GoodIn wsX6_rule (wsV RX6 118 RX6 yX6_isMoment wsX6_isMoment) := goodIn_app (goodIn_of _ (by decide +kernel)) ggX6_rule_X6_isMoment
set_option maxRecDepth 20000 in
theorem ggX6_rule_X6_isRuling : GoodIn wsX6_rule wsX6_isRuling := goodIn_r _ [13, 8, 9, 5, 10] (by decide +kernel) (by decide +kernel)
set_option maxRecDepth 20000 in
theorem gX6_rule_X6_isRuling : GoodIn wsX6_rule (va_wsS RX6 87 yX6_isRuling wsX6_isRuling) := goodIn_app (goodIn_of _ (by decide +kernel)) ggX6_rule_X6_isRuling
set_option maxRecDepth 20000 in
theorem ggX6_rule_X6_verdictOf : GoodIn wsX6_rule wsX6_verdictOf := goodIn_r _ [17, 1, 18, 19, 20, 21, 5, 22, 23, 24, 25, 26, 27, 28, 29, 30, 31, 32, 33, 34, 35, 36, 8, 9, 10, 37, 38, 39, 40, 41, 42, 43, 44, 45, 46, 47, 48, 49, 50, 51, 52, 53, 54, 55, 56, 57, 58, 59, 60, 61, 62, 63, 64, 65, 66, 67, 68, 69, 70, 71, 72, 73, 74, 75, 76, 77, 78, 79, 80, 81, 82, 83, 84, 85, 86, 87, 88, 89, 90, 91, 92, 93, 94, 95, 96] (by decide +kernel) (by decide +kernel)
set_option maxRecDepth 20000 in
theorem gX6_rule_X6_verdictOf : GoodIn wsX6_rule (wsV RX6 141 RX6 yX6_verdictOf wsX6_verdictOf) := goodIn_app (goodIn_of _ (by decide +kernel)) ggX6_rule_X6_verdictOf
theorem dX6_rule_0 : decode cX6_rule 0 = .ok (.aload_n 0, 1) := by decide +kernel
theorem dX6_rule_1 : decode cX6_rule 1 = .ok (.iload_n 1, 1) := by decide +kernel
theorem dX6_rule_2 : decode cX6_rule 2 = .ok (.invokevirtual 118, 3) := by decide +kernel
theorem dX6_rule_5 : decode cX6_rule 5 = .ok (.ifCond .ne 5, 3) := by decide +kernel
theorem dX6_rule_8 : decode cX6_rule 8 = .ok (.iconst (-1), 1) := by decide +kernel
theorem dX6_rule_9 : decode cX6_rule 9 = .ok (.ireturn, 1) := by decide +kernel
theorem dX6_rule_10 : decode cX6_rule 10 = .ok (.iload_n 2, 1) := by decide +kernel
theorem dX6_rule_11 : decode cX6_rule 11 = .ok (.iconst (-1), 1) := by decide +kernel
theorem dX6_rule_12 : decode cX6_rule 12 = .ok (.if_icmp .eq 13, 3) := by decide +kernel
theorem dX6_rule_15 : decode cX6_rule 15 = .ok (.iload_n 2, 1) := by decide +kernel
theorem dX6_rule_16 : decode cX6_rule 16 = .ok (.invokestatic 87, 3) := by decide +kernel
theorem dX6_rule_19 : decode cX6_rule 19 = .ok (.ifCond .ne 6, 3) := by decide +kernel
theorem dX6_rule_22 : decode cX6_rule 22 = .ok (.bipush (-2), 2) := by decide +kernel
theorem dX6_rule_24 : decode cX6_rule 24 = .ok (.ireturn, 1) := by decide +kernel
theorem dX6_rule_25 : decode cX6_rule 25 = .ok (.aload_n 0, 1) := by decide +kernel
theorem dX6_rule_26 : decode cX6_rule 26 = .ok (.iload_n 1, 1) := by decide +kernel
theorem dX6_rule_27 : decode cX6_rule 27 = .ok (.invokevirtual 141, 3) := by decide +kernel
theorem dX6_rule_30 : decode cX6_rule 30 = .ok (.istore_n 3, 1) := by decide +kernel
theorem dX6_rule_31 : decode cX6_rule 31 = .ok (.aload_n 0, 1) := by decide +kernel
theorem dX6_rule_32 : decode cX6_rule 32 = .ok (.getfield 39, 3) := by decide +kernel
theorem dX6_rule_35 : decode cX6_rule 35 = .ok (.iload_n 1, 1) := by decide +kernel
theorem dX6_rule_36 : decode cX6_rule 36 = .ok (.iload_n 2, 1) := by decide +kernel
theorem dX6_rule_37 : decode cX6_rule 37 = .ok (.iastore, 1) := by decide +kernel
theorem dX6_rule_38 : decode cX6_rule 38 = .ok (.iload_n 3, 1) := by decide +kernel
theorem dX6_rule_39 : decode cX6_rule 39 = .ok (.ireturn, 1) := by decide +kernel
set_option maxRecDepth 20000 in
theorem ggX6_make_X6_isMoment : GoodIn wsX6_make wsX6_isMoment := goodIn_r _ [9, 10, 11, 12, 8, 13, 77, 78, 79, 80, 81, 82, 83, 84, 85, 86, 87, 88, 89, 90, 91, 92, 93, 94, 95, 96, 97] (by decide +kernel) (by decide +kernel)
set_option maxRecDepth 20000 in
theorem gX6_make_X6_isMoment : GoodIn wsX6_make (wsV RX6 118 RX6 yX6_isMoment wsX6_isMoment) := goodIn_app (goodIn_of _ (by decide +kernel)) ggX6_make_X6_isMoment
set_option maxRecDepth 20000 in
theorem ggX6_make_X6_doubt : GoodIn wsX6_make wsX6_doubt := goodIn_r _ [17, 18, 19, 20, 8, 21, 22, 23, 24, 25, 26, 27, 28, 29, 30, 31, 32, 77, 78, 79, 80, 81, 82, 83, 84, 85, 86, 87, 88, 89, 90, 91, 92, 93, 94, 95, 96, 97] (by decide +kernel) (by decide +kernel)
set_option maxRecDepth 20000 in
theorem gX6_make_X6_doubt : GoodIn wsX6_make (wsV RX6 131 RX6 yX6_doubt wsX6_doubt) := goodIn_app (goodIn_of _ (by decide +kernel)) ggX6_make_X6_doubt
set_option maxRecDepth 20000 in
theorem ggX6_make_X6_mayBes : GoodIn wsX6_make wsX6_mayBes := goodIn_r _ [36, 18, 19, 20, 8, 21, 22, 37, 38, 39, 40, 41, 42, 43, 44, 45, 11, 12, 13, 23, 24, 25, 26, 27, 28, 29, 30, 31, 32, 46, 47, 48, 49, 50, 51, 52, 53, 54, 55, 56, 57, 58, 59, 60, 61, 62, 63, 77, 78, 79, 80, 81, 82, 83, 84, 85, 86, 87, 88, 89, 90, 91, 92, 93, 94, 95, 96, 97] (by decide +kernel) (by decide +kernel)
set_option maxRecDepth 20000 in
theorem gX6_make_X6_mayBes : GoodIn wsX6_make (wsV RX6 134 RX6 yX6_mayBes wsX6_mayBes) := goodIn_app (goodIn_of _ (by decide +kernel)) ggX6_make_X6_mayBes
set_option maxRecDepth 20000 in
theorem ggX6_make_X6_so : GoodIn wsX6_make wsX6_so := goodIn_r _ [26, 27, 28, 77, 78, 79, 80, 81, 82, 83, 84, 85, 86, 87, 88, 89, 90, 91, 92, 93, 94, 95, 96, 97] (by decide +kernel) (by decide +kernel)
set_option maxRecDepth 20000 in
theorem gX6_make_X6_so : GoodIn wsX6_make (wsV RX6 121 RX6 yX6_so wsX6_so) := goodIn_app (goodIn_of _ (by decide +kernel)) ggX6_make_X6_so
set_option maxRecDepth 20000 in
theorem ggX6_make_X6_lineFor : GoodIn wsX6_make wsX6_lineFor := goodIn_r _ [54, 55, 56, 57, 58, 59, 8, 60, 61, 62, 63, 77, 78, 79, 80, 81, 82, 83, 84, 85, 86, 87, 88, 89, 90, 91, 92, 93, 94, 95, 96, 97] (by decide +kernel) (by decide +kernel)
set_option maxRecDepth 20000 in
theorem gX6_make_X6_lineFor : GoodIn wsX6_make (wsV RX6 106 RX6 yX6_lineFor wsX6_lineFor) := goodIn_app (goodIn_of _ (by decide +kernel)) ggX6_make_X6_lineFor
set_option maxRecDepth 20000 in
theorem ggX6_make_X6_verdictOf : GoodIn wsX6_make wsX6_verdictOf := goodIn_r _ [67, 68, 2, 33, 34, 35, 8, 36, 18, 19, 20, 21, 22, 37, 38, 39, 40, 41, 42, 43, 44, 45, 11, 12, 13, 23, 24, 25, 26, 27, 28, 29, 30, 31, 32, 46, 47, 48, 49, 50, 51, 52, 53, 54, 55, 56, 57, 58, 59, 60, 61, 62, 63, 69, 70, 71, 72, 1, 4, 3, 14, 15, 16, 17, 77, 78, 79, 80, 81, 82, 83, 84, 85, 86, 87, 88, 89, 90, 91, 92, 93, 94, 95, 96, 97] (by decide +kernel) (by decide +kernel)
set_option maxRecDepth 20000 in
theorem gX6_make_X6_verdictOf : GoodIn wsX6_make (wsV RX6 141 RX6 yX6_verdictOf wsX6_verdictOf) := goodIn_app (goodIn_of _ (by decide +kernel)) ggX6_make_X6_verdictOf
set_option maxRecDepth 20000 in
theorem ggX6_make_X6_allFacts : GoodIn wsX6_make wsX6_allFacts := goodIn_r _ [21, 22, 77, 78, 79, 80, 81, 82, 83, 84, 85, 86, 87, 88, 89, 90, 91, 92, 93, 94, 95, 96, 97] (by decide +kernel) (by decide +kernel)
set_option maxRecDepth 20000 in
theorem gX6_make_X6_allFacts : GoodIn wsX6_make (wsV RX6 83 RX6 yX6_allFacts wsX6_allFacts) := goodIn_app (goodIn_of _ (by decide +kernel)) ggX6_make_X6_allFacts
set_option maxRecDepth 20000 in
theorem ggX6_make_X6_namedBy : GoodIn wsX6_make wsX6_namedBy := goodIn_r _ [76, 55, 61, 62, 63, 56, 77, 78, 79, 80, 81, 82, 83, 84, 85, 86, 87, 88, 89, 90, 91, 92, 93, 94, 95, 96, 97] (by decide +kernel) (by decide +kernel)
set_option maxRecDepth 20000 in
theorem gX6_make_X6_namedBy : GoodIn wsX6_make (wsV RX6 97 RX6 yX6_namedBy wsX6_namedBy) := goodIn_app (goodIn_of _ (by decide +kernel)) ggX6_make_X6_namedBy
theorem dX6_make_0 : decode cX6_make 0 = .ok (.aload_n 0, 1) := by decide +kernel
theorem dX6_make_1 : decode cX6_make 1 = .ok (.iload_n 1, 1) := by decide +kernel
theorem dX6_make_2 : decode cX6_make 2 = .ok (.invokevirtual 118, 3) := by decide +kernel
theorem dX6_make_5 : decode cX6_make 5 = .ok (.ifCond .ne 5, 3) := by decide +kernel
theorem dX6_make_8 : decode cX6_make 8 = .ok (.iconst (-1), 1) := by decide +kernel
theorem dX6_make_9 : decode cX6_make 9 = .ok (.ireturn, 1) := by decide +kernel
theorem dX6_make_10 : decode cX6_make 10 = .ok (.aload_n 0, 1) := by decide +kernel
theorem dX6_make_11 : decode cX6_make 11 = .ok (.iload_n 1, 1) := by decide +kernel
theorem dX6_make_12 : decode cX6_make 12 = .ok (.invokevirtual 131, 3) := by decide +kernel
theorem dX6_make_15 : decode cX6_make 15 = .ok (.ifCond .ne 12, 3) := by decide +kernel
theorem dX6_make_18 : decode cX6_make 18 = .ok (.aload_n 0, 1) := by decide +kernel
theorem dX6_make_19 : decode cX6_make 19 = .ok (.iload_n 1, 1) := by decide +kernel
theorem dX6_make_20 : decode cX6_make 20 = .ok (.iconst (-1), 1) := by decide +kernel
theorem dX6_make_21 : decode cX6_make 21 = .ok (.invokevirtual 134, 3) := by decide +kernel
theorem dX6_make_24 : decode cX6_make 24 = .ok (.ifCond .ne 6, 3) := by decide +kernel
theorem dX6_make_27 : decode cX6_make 27 = .ok (.bipush (-3), 2) := by decide +kernel
theorem dX6_make_29 : decode cX6_make 29 = .ok (.ireturn, 1) := by decide +kernel
theorem dX6_make_30 : decode cX6_make 30 = .ok (.aload_n 0, 1) := by decide +kernel
theorem dX6_make_31 : decode cX6_make 31 = .ok (.getfield 76, 3) := by decide +kernel
theorem dX6_make_34 : decode cX6_make 34 = .ok (.bipush 12, 2) := by decide +kernel
theorem dX6_make_36 : decode cX6_make 36 = .ok (.if_icmp .ne 6, 3) := by decide +kernel
theorem dX6_make_39 : decode cX6_make 39 = .ok (.bipush (-4), 2) := by decide +kernel
theorem dX6_make_41 : decode cX6_make 41 = .ok (.ireturn, 1) := by decide +kernel
theorem dX6_make_42 : decode cX6_make 42 = .ok (.aload_n 0, 1) := by decide +kernel
theorem dX6_make_43 : decode cX6_make 43 = .ok (.iload_n 1, 1) := by decide +kernel
theorem dX6_make_44 : decode cX6_make 44 = .ok (.invokevirtual 121, 3) := by decide +kernel
theorem dX6_make_47 : decode cX6_make 47 = .ok (.istore_n 2, 1) := by decide +kernel
theorem dX6_make_48 : decode cX6_make 48 = .ok (.aload_n 0, 1) := by decide +kernel
theorem dX6_make_49 : decode cX6_make 49 = .ok (.iload_n 2, 1) := by decide +kernel
theorem dX6_make_50 : decode cX6_make 50 = .ok (.invokevirtual 106, 3) := by decide +kernel
theorem dX6_make_53 : decode cX6_make 53 = .ok (.istore_n 3, 1) := by decide +kernel
theorem dX6_make_54 : decode cX6_make 54 = .ok (.aload_n 0, 1) := by decide +kernel
theorem dX6_make_55 : decode cX6_make 55 = .ok (.getfield 45, 3) := by decide +kernel
theorem dX6_make_58 : decode cX6_make 58 = .ok (.aload_n 0, 1) := by decide +kernel
theorem dX6_make_59 : decode cX6_make 59 = .ok (.getfield 76, 3) := by decide +kernel
theorem dX6_make_62 : decode cX6_make 62 = .ok (.aload_n 0, 1) := by decide +kernel
theorem dX6_make_63 : decode cX6_make 63 = .ok (.iload_n 1, 1) := by decide +kernel
theorem dX6_make_64 : decode cX6_make 64 = .ok (.invokevirtual 141, 3) := by decide +kernel
theorem dX6_make_67 : decode cX6_make 67 = .ok (.iastore, 1) := by decide +kernel
theorem dX6_make_68 : decode cX6_make 68 = .ok (.aload_n 0, 1) := by decide +kernel
theorem dX6_make_69 : decode cX6_make 69 = .ok (.getfield 42, 3) := by decide +kernel
theorem dX6_make_72 : decode cX6_make 72 = .ok (.aload_n 0, 1) := by decide +kernel
theorem dX6_make_73 : decode cX6_make 73 = .ok (.getfield 76, 3) := by decide +kernel
theorem dX6_make_76 : decode cX6_make 76 = .ok (.iload_n 2, 1) := by decide +kernel
theorem dX6_make_77 : decode cX6_make 77 = .ok (.iastore, 1) := by decide +kernel
theorem dX6_make_78 : decode cX6_make 78 = .ok (.aload_n 0, 1) := by decide +kernel
theorem dX6_make_79 : decode cX6_make 79 = .ok (.getfield 48, 3) := by decide +kernel
theorem dX6_make_82 : decode cX6_make 82 = .ok (.aload_n 0, 1) := by decide +kernel
theorem dX6_make_83 : decode cX6_make 83 = .ok (.getfield 76, 3) := by decide +kernel
theorem dX6_make_86 : decode cX6_make 86 = .ok (.iload_n 3, 1) := by decide +kernel
theorem dX6_make_87 : decode cX6_make 87 = .ok (.ifCond .ge 10, 3) := by decide +kernel
theorem dX6_make_90 : decode cX6_make 90 = .ok (.aload_n 0, 1) := by decide +kernel
theorem dX6_make_91 : decode cX6_make 91 = .ok (.invokevirtual 83, 3) := by decide +kernel
theorem dX6_make_94 : decode cX6_make 94 = .ok (.goto 8, 3) := by decide +kernel
theorem dX6_make_97 : decode cX6_make 97 = .ok (.aload_n 0, 1) := by decide +kernel
theorem dX6_make_98 : decode cX6_make 98 = .ok (.iload_n 3, 1) := by decide +kernel
theorem dX6_make_99 : decode cX6_make 99 = .ok (.invokevirtual 97, 3) := by decide +kernel
theorem dX6_make_102 : decode cX6_make 102 = .ok (.iastore, 1) := by decide +kernel
theorem dX6_make_103 : decode cX6_make 103 = .ok (.aload_n 0, 1) := by decide +kernel
theorem dX6_make_104 : decode cX6_make 104 = .ok (.dup, 1) := by decide +kernel
theorem dX6_make_105 : decode cX6_make 105 = .ok (.getfield 76, 3) := by decide +kernel
theorem dX6_make_108 : decode cX6_make 108 = .ok (.iconst 1, 1) := by decide +kernel
theorem dX6_make_109 : decode cX6_make 109 = .ok (.iadd, 1) := by decide +kernel
theorem dX6_make_110 : decode cX6_make 110 = .ok (.putfield 76, 3) := by decide +kernel
theorem dX6_make_113 : decode cX6_make 113 = .ok (.aload_n 0, 1) := by decide +kernel
theorem dX6_make_114 : decode cX6_make 114 = .ok (.getfield 76, 3) := by decide +kernel
theorem dX6_make_117 : decode cX6_make 117 = .ok (.iconst 1, 1) := by decide +kernel
theorem dX6_make_118 : decode cX6_make 118 = .ok (.isub, 1) := by decide +kernel
theorem dX6_make_119 : decode cX6_make 119 = .ok (.ireturn, 1) := by decide +kernel
set_option maxRecDepth 20000 in
theorem ggX6_ofCase_X6_in : GoodIn wsX6_ofCase wsX6_in := goodIn_r _ [8] (by decide +kernel) (by decide +kernel)
set_option maxRecDepth 20000 in
theorem gX6_ofCase_X6_in : GoodIn wsX6_ofCase (va_wsS RX6 66 yX6_in wsX6_in) := goodIn_app (goodIn_of _ (by decide +kernel)) ggX6_ofCase_X6_in
theorem dX6_ofCase_0 : decode cX6_ofCase 0 = .ok (.iload_n 1, 1) := by decide +kernel
theorem dX6_ofCase_1 : decode cX6_ofCase 1 = .ok (.iconst 0, 1) := by decide +kernel
theorem dX6_ofCase_2 : decode cX6_ofCase 2 = .ok (.aload_n 0, 1) := by decide +kernel
theorem dX6_ofCase_3 : decode cX6_ofCase 3 = .ok (.getfield 76, 3) := by decide +kernel
theorem dX6_ofCase_6 : decode cX6_ofCase 6 = .ok (.iconst 1, 1) := by decide +kernel
theorem dX6_ofCase_7 : decode cX6_ofCase 7 = .ok (.isub, 1) := by decide +kernel
theorem dX6_ofCase_8 : decode cX6_ofCase 8 = .ok (.invokestatic 66, 3) := by decide +kernel
theorem dX6_ofCase_11 : decode cX6_ofCase 11 = .ok (.ifCond .ne 5, 3) := by decide +kernel
theorem dX6_ofCase_14 : decode cX6_ofCase 14 = .ok (.iconst (-1), 1) := by decide +kernel
theorem dX6_ofCase_15 : decode cX6_ofCase 15 = .ok (.ireturn, 1) := by decide +kernel
theorem dX6_ofCase_16 : decode cX6_ofCase 16 = .ok (.iload_n 2, 1) := by decide +kernel
theorem dX6_ofCase_17 : decode cX6_ofCase 17 = .ok (.ifCond .ne 12, 3) := by decide +kernel
theorem dX6_ofCase_20 : decode cX6_ofCase 20 = .ok (.aload_n 0, 1) := by decide +kernel
theorem dX6_ofCase_21 : decode cX6_ofCase 21 = .ok (.getfield 42, 3) := by decide +kernel
theorem dX6_ofCase_24 : decode cX6_ofCase 24 = .ok (.iload_n 1, 1) := by decide +kernel
theorem dX6_ofCase_25 : decode cX6_ofCase 25 = .ok (.iaload, 1) := by decide +kernel
theorem dX6_ofCase_26 : decode cX6_ofCase 26 = .ok (.goto 33, 3) := by decide +kernel
theorem dX6_ofCase_29 : decode cX6_ofCase 29 = .ok (.iload_n 2, 1) := by decide +kernel
theorem dX6_ofCase_30 : decode cX6_ofCase 30 = .ok (.iconst 1, 1) := by decide +kernel
theorem dX6_ofCase_31 : decode cX6_ofCase 31 = .ok (.if_icmp .ne 12, 3) := by decide +kernel
theorem dX6_ofCase_34 : decode cX6_ofCase 34 = .ok (.aload_n 0, 1) := by decide +kernel
theorem dX6_ofCase_35 : decode cX6_ofCase 35 = .ok (.getfield 45, 3) := by decide +kernel
theorem dX6_ofCase_38 : decode cX6_ofCase 38 = .ok (.iload_n 1, 1) := by decide +kernel
theorem dX6_ofCase_39 : decode cX6_ofCase 39 = .ok (.iaload, 1) := by decide +kernel
theorem dX6_ofCase_40 : decode cX6_ofCase 40 = .ok (.goto 19, 3) := by decide +kernel
theorem dX6_ofCase_43 : decode cX6_ofCase 43 = .ok (.iload_n 2, 1) := by decide +kernel
theorem dX6_ofCase_44 : decode cX6_ofCase 44 = .ok (.iconst 2, 1) := by decide +kernel
theorem dX6_ofCase_45 : decode cX6_ofCase 45 = .ok (.if_icmp .ne 12, 3) := by decide +kernel
theorem dX6_ofCase_48 : decode cX6_ofCase 48 = .ok (.aload_n 0, 1) := by decide +kernel
theorem dX6_ofCase_49 : decode cX6_ofCase 49 = .ok (.getfield 48, 3) := by decide +kernel
theorem dX6_ofCase_52 : decode cX6_ofCase 52 = .ok (.iload_n 1, 1) := by decide +kernel
theorem dX6_ofCase_53 : decode cX6_ofCase 53 = .ok (.iaload, 1) := by decide +kernel
theorem dX6_ofCase_54 : decode cX6_ofCase 54 = .ok (.goto 5, 3) := by decide +kernel
theorem dX6_ofCase_57 : decode cX6_ofCase 57 = .ok (.bipush (-2), 2) := by decide +kernel
theorem dX6_ofCase_59 : decode cX6_ofCase 59 = .ok (.ireturn, 1) := by decide +kernel
set_option maxRecDepth 20000 in
theorem ggX6_turned_X6_rulingFor : GoodIn wsX6_turned wsX6_rulingFor := goodIn_r _ [8, 9, 10, 11, 12, 7, 13, 14, 15, 16, 17, 18, 19, 20, 21, 22, 23, 24, 25, 26, 27, 28, 29, 30, 31, 32, 33, 34, 35, 36, 37, 38, 39, 40, 41, 42, 43] (by decide +kernel) (by decide +kernel)
set_option maxRecDepth 20000 in
theorem gX6_turned_X6_rulingFor : GoodIn wsX6_turned (wsV RX6 109 RX6 yX6_rulingFor wsX6_rulingFor) := goodIn_app (goodIn_of _ (by decide +kernel)) ggX6_turned_X6_rulingFor
theorem dX6_turned_0 : decode cX6_turned 0 = .ok (.iconst 0, 1) := by decide +kernel
theorem dX6_turned_1 : decode cX6_turned 1 = .ok (.istore_n 1, 1) := by decide +kernel
theorem dX6_turned_2 : decode cX6_turned 2 = .ok (.iconst 0, 1) := by decide +kernel
theorem dX6_turned_3 : decode cX6_turned 3 = .ok (.istore_n 2, 1) := by decide +kernel
theorem dX6_turned_4 : decode cX6_turned 4 = .ok (.iload_n 2, 1) := by decide +kernel
theorem dX6_turned_5 : decode cX6_turned 5 = .ok (.aload_n 0, 1) := by decide +kernel
theorem dX6_turned_6 : decode cX6_turned 6 = .ok (.getfield 76, 3) := by decide +kernel
theorem dX6_turned_9 : decode cX6_turned 9 = .ok (.if_icmp .ge 38, 3) := by decide +kernel
theorem dX6_turned_12 : decode cX6_turned 12 = .ok (.iload_n 1, 1) := by decide +kernel
theorem dX6_turned_13 : decode cX6_turned 13 = .ok (.aload_n 0, 1) := by decide +kernel
theorem dX6_turned_14 : decode cX6_turned 14 = .ok (.getfield 45, 3) := by decide +kernel
theorem dX6_turned_17 : decode cX6_turned 17 = .ok (.iload_n 2, 1) := by decide +kernel
theorem dX6_turned_18 : decode cX6_turned 18 = .ok (.iaload, 1) := by decide +kernel
theorem dX6_turned_19 : decode cX6_turned 19 = .ok (.aload_n 0, 1) := by decide +kernel
theorem dX6_turned_20 : decode cX6_turned 20 = .ok (.aload_n 0, 1) := by decide +kernel
theorem dX6_turned_21 : decode cX6_turned 21 = .ok (.getfield 42, 3) := by decide +kernel
theorem dX6_turned_24 : decode cX6_turned 24 = .ok (.iload_n 2, 1) := by decide +kernel
theorem dX6_turned_25 : decode cX6_turned 25 = .ok (.iaload, 1) := by decide +kernel
theorem dX6_turned_26 : decode cX6_turned 26 = .ok (.invokevirtual 109, 3) := by decide +kernel
theorem dX6_turned_29 : decode cX6_turned 29 = .ok (.if_icmp .eq 9, 3) := by decide +kernel
theorem dX6_turned_32 : decode cX6_turned 32 = .ok (.iconst 1, 1) := by decide +kernel
theorem dX6_turned_33 : decode cX6_turned 33 = .ok (.iload_n 2, 1) := by decide +kernel
theorem dX6_turned_34 : decode cX6_turned 34 = .ok (.ishl, 1) := by decide +kernel
theorem dX6_turned_35 : decode cX6_turned 35 = .ok (.goto 4, 3) := by decide +kernel
theorem dX6_turned_38 : decode cX6_turned 38 = .ok (.iconst 0, 1) := by decide +kernel
theorem dX6_turned_39 : decode cX6_turned 39 = .ok (.ior, 1) := by decide +kernel
theorem dX6_turned_40 : decode cX6_turned 40 = .ok (.istore_n 1, 1) := by decide +kernel
theorem dX6_turned_41 : decode cX6_turned 41 = .ok (.iinc 2 1, 3) := by decide +kernel
theorem dX6_turned_44 : decode cX6_turned 44 = .ok (.goto (-40), 3) := by decide +kernel
theorem dX6_turned_47 : decode cX6_turned 47 = .ok (.iload_n 1, 1) := by decide +kernel
theorem dX6_turned_48 : decode cX6_turned 48 = .ok (.ireturn, 1) := by decide +kernel
set_option maxRecDepth 20000 in
theorem ggX6_mend_X6_isLine : GoodIn wsX6_mend wsX6_isLine := goodIn_r _ [11, 12, 13, 14, 10, 15, 83, 84, 85, 86, 87, 88, 89, 90, 91, 92, 93, 94, 95, 96, 97, 98, 99, 100, 101, 102, 103] (by decide +kernel) (by decide +kernel)
set_option maxRecDepth 20000 in
theorem gX6_mend_X6_isLine : GoodIn wsX6_mend (wsV RX6 90 RX6 yX6_isLine wsX6_isLine) := goodIn_app (goodIn_of _ (by decide +kernel)) ggX6_mend_X6_isLine
set_option maxRecDepth 20000 in
theorem ggX6_mend_X6_in : GoodIn wsX6_mend wsX6_in := goodIn_r _ [15] (by decide +kernel) (by decide +kernel)
set_option maxRecDepth 20000 in
theorem gX6_mend_X6_in : GoodIn wsX6_mend (va_wsS RX6 66 yX6_in wsX6_in) := goodIn_app (goodIn_of _ (by decide +kernel)) ggX6_mend_X6_in
set_option maxRecDepth 20000 in
theorem ggX6_mend_X6_turnedKinds : GoodIn wsX6_mend wsX6_turnedKinds := goodIn_r _ [19, 2, 6, 20, 21, 22, 10, 23, 24, 25, 26, 27, 28, 29, 30, 31, 32, 33, 34, 35, 36, 37, 12, 38, 39, 40, 41, 42, 43, 44, 45, 46, 47, 48, 49, 13, 14, 15, 83, 84, 85, 86, 87, 88, 89, 90, 91, 92, 93, 94, 95, 96, 97, 98, 99, 100, 101, 102, 103] (by decide +kernel) (by decide +kernel)
set_option maxRecDepth 20000 in
theorem gX6_mend_X6_turnedKinds : GoodIn wsX6_mend (wsV RX6 115 RX6 yX6_turnedKinds wsX6_turnedKinds) := goodIn_app (goodIn_of _ (by decide +kernel)) ggX6_mend_X6_turnedKinds
set_option maxRecDepth 20000 in
theorem ggX6_mend_X6_verdictOf : GoodIn wsX6_mend wsX6_verdictOf := goodIn_r _ [53, 54, 55, 56, 57, 58, 10, 59, 20, 21, 22, 23, 24, 60, 61, 62, 63, 45, 46, 47, 48, 49, 13, 14, 15, 64, 65, 66, 67, 68, 69, 70, 71, 72, 73, 29, 30, 31, 32, 33, 34, 35, 36, 37, 12, 38, 39, 40, 41, 42, 6, 43, 44, 74, 75, 76, 77, 1, 78, 3, 79, 80, 81, 82, 83, 84, 85, 86, 87, 88, 89, 90, 91, 92, 93, 94, 95, 96, 97, 98, 99, 100, 101, 102, 103] (by decide +kernel) (by decide +kernel)
set_option maxRecDepth 20000 in
theorem gX6_mend_X6_verdictOf : GoodIn wsX6_mend (wsV RX6 141 RX6 yX6_verdictOf wsX6_verdictOf) := goodIn_app (goodIn_of _ (by decide +kernel)) ggX6_mend_X6_verdictOf
theorem dX6_mend_0 : decode cX6_mend 0 = .ok (.aload_n 0, 1) := by decide +kernel
theorem dX6_mend_1 : decode cX6_mend 1 = .ok (.iload_n 1, 1) := by decide +kernel
theorem dX6_mend_2 : decode cX6_mend 2 = .ok (.invokevirtual 90, 3) := by decide +kernel
theorem dX6_mend_5 : decode cX6_mend 5 = .ok (.ifCond .ne 5, 3) := by decide +kernel
theorem dX6_mend_8 : decode cX6_mend 8 = .ok (.iconst (-1), 1) := by decide +kernel
theorem dX6_mend_9 : decode cX6_mend 9 = .ok (.ireturn, 1) := by decide +kernel
theorem dX6_mend_10 : decode cX6_mend 10 = .ok (.iload_n 2, 1) := by decide +kernel
theorem dX6_mend_11 : decode cX6_mend 11 = .ok (.iconst 0, 1) := by decide +kernel
theorem dX6_mend_12 : decode cX6_mend 12 = .ok (.iconst 2, 1) := by decide +kernel
theorem dX6_mend_13 : decode cX6_mend 13 = .ok (.invokestatic 66, 3) := by decide +kernel
theorem dX6_mend_16 : decode cX6_mend 16 = .ok (.ifCond .ne 6, 3) := by decide +kernel
theorem dX6_mend_19 : decode cX6_mend 19 = .ok (.bipush (-2), 2) := by decide +kernel
theorem dX6_mend_21 : decode cX6_mend 21 = .ok (.ireturn, 1) := by decide +kernel
theorem dX6_mend_22 : decode cX6_mend 22 = .ok (.aload_n 0, 1) := by decide +kernel
theorem dX6_mend_23 : decode cX6_mend 23 = .ok (.iload_n 1, 1) := by decide +kernel
theorem dX6_mend_24 : decode cX6_mend 24 = .ok (.invokevirtual 115, 3) := by decide +kernel
theorem dX6_mend_27 : decode cX6_mend 27 = .ok (.istore_n 3, 1) := by decide +kernel
theorem dX6_mend_28 : decode cX6_mend 28 = .ok (.iload_n 2, 1) := by decide +kernel
theorem dX6_mend_29 : decode cX6_mend 29 = .ok (.ifCond .ne 5, 3) := by decide +kernel
theorem dX6_mend_32 : decode cX6_mend 32 = .ok (.iload_n 3, 1) := by decide +kernel
theorem dX6_mend_33 : decode cX6_mend 33 = .ok (.ireturn, 1) := by decide +kernel
theorem dX6_mend_34 : decode cX6_mend 34 = .ok (.iconst 0, 1) := by decide +kernel
theorem dX6_mend_35 : decode cX6_mend 35 = .ok (.istore 4, 2) := by decide +kernel
theorem dX6_mend_37 : decode cX6_mend 37 = .ok (.iconst 0, 1) := by decide +kernel
theorem dX6_mend_38 : decode cX6_mend 38 = .ok (.istore 5, 2) := by decide +kernel
theorem dX6_mend_40 : decode cX6_mend 40 = .ok (.iload 5, 2) := by decide +kernel
theorem dX6_mend_42 : decode cX6_mend 42 = .ok (.aload_n 0, 1) := by decide +kernel
theorem dX6_mend_43 : decode cX6_mend 43 = .ok (.getfield 76, 3) := by decide +kernel
theorem dX6_mend_46 : decode cX6_mend 46 = .ok (.if_icmp .ge 31, 3) := by decide +kernel
theorem dX6_mend_49 : decode cX6_mend 49 = .ok (.iload_n 2, 1) := by decide +kernel
theorem dX6_mend_50 : decode cX6_mend 50 = .ok (.iconst 1, 1) := by decide +kernel
theorem dX6_mend_51 : decode cX6_mend 51 = .ok (.if_icmp .ne 26, 3) := by decide +kernel
theorem dX6_mend_54 : decode cX6_mend 54 = .ok (.iload 4, 2) := by decide +kernel
theorem dX6_mend_56 : decode cX6_mend 56 = .ok (.aload_n 0, 1) := by decide +kernel
theorem dX6_mend_57 : decode cX6_mend 57 = .ok (.getfield 54, 3) := by decide +kernel
theorem dX6_mend_60 : decode cX6_mend 60 = .ok (.aload_n 0, 1) := by decide +kernel
theorem dX6_mend_61 : decode cX6_mend 61 = .ok (.getfield 42, 3) := by decide +kernel
theorem dX6_mend_64 : decode cX6_mend 64 = .ok (.iload 5, 2) := by decide +kernel
theorem dX6_mend_66 : decode cX6_mend 66 = .ok (.iaload, 1) := by decide +kernel
theorem dX6_mend_67 : decode cX6_mend 67 = .ok (.iaload, 1) := by decide +kernel
theorem dX6_mend_68 : decode cX6_mend 68 = .ok (.iadd, 1) := by decide +kernel
theorem dX6_mend_69 : decode cX6_mend 69 = .ok (.istore 4, 2) := by decide +kernel
theorem dX6_mend_71 : decode cX6_mend 71 = .ok (.iinc 5 1, 3) := by decide +kernel
theorem dX6_mend_74 : decode cX6_mend 74 = .ok (.goto (-34), 3) := by decide +kernel
theorem dX6_mend_77 : decode cX6_mend 77 = .ok (.iconst 0, 1) := by decide +kernel
theorem dX6_mend_78 : decode cX6_mend 78 = .ok (.istore 5, 2) := by decide +kernel
theorem dX6_mend_80 : decode cX6_mend 80 = .ok (.iload 5, 2) := by decide +kernel
theorem dX6_mend_82 : decode cX6_mend 82 = .ok (.aload_n 0, 1) := by decide +kernel
theorem dX6_mend_83 : decode cX6_mend 83 = .ok (.getfield 73, 3) := by decide +kernel
theorem dX6_mend_86 : decode cX6_mend 86 = .ok (.if_icmp .ge 22, 3) := by decide +kernel
theorem dX6_mend_89 : decode cX6_mend 89 = .ok (.aload_n 0, 1) := by decide +kernel
theorem dX6_mend_90 : decode cX6_mend 90 = .ok (.getfield 57, 3) := by decide +kernel
theorem dX6_mend_93 : decode cX6_mend 93 = .ok (.iload 5, 2) := by decide +kernel
theorem dX6_mend_95 : decode cX6_mend 95 = .ok (.aload_n 0, 1) := by decide +kernel
theorem dX6_mend_96 : decode cX6_mend 96 = .ok (.iload 5, 2) := by decide +kernel
theorem dX6_mend_98 : decode cX6_mend 98 = .ok (.invokevirtual 141, 3) := by decide +kernel
theorem dX6_mend_101 : decode cX6_mend 101 = .ok (.iastore, 1) := by decide +kernel
theorem dX6_mend_102 : decode cX6_mend 102 = .ok (.iinc 5 1, 3) := by decide +kernel
theorem dX6_mend_105 : decode cX6_mend 105 = .ok (.goto (-25), 3) := by decide +kernel
theorem dX6_mend_108 : decode cX6_mend 108 = .ok (.aload_n 0, 1) := by decide +kernel
theorem dX6_mend_109 : decode cX6_mend 109 = .ok (.getfield 26, 3) := by decide +kernel
theorem dX6_mend_112 : decode cX6_mend 112 = .ok (.iload_n 1, 1) := by decide +kernel
theorem dX6_mend_113 : decode cX6_mend 113 = .ok (.aload_n 0, 1) := by decide +kernel
theorem dX6_mend_114 : decode cX6_mend 114 = .ok (.getfield 26, 3) := by decide +kernel
theorem dX6_mend_117 : decode cX6_mend 117 = .ok (.iload_n 1, 1) := by decide +kernel
theorem dX6_mend_118 : decode cX6_mend 118 = .ok (.baload, 1) := by decide +kernel
theorem dX6_mend_119 : decode cX6_mend 119 = .ok (.ifCond .ne 7, 3) := by decide +kernel
theorem dX6_mend_122 : decode cX6_mend 122 = .ok (.iconst 1, 1) := by decide +kernel
theorem dX6_mend_123 : decode cX6_mend 123 = .ok (.goto 4, 3) := by decide +kernel
theorem dX6_mend_126 : decode cX6_mend 126 = .ok (.iconst 0, 1) := by decide +kernel
theorem dX6_mend_127 : decode cX6_mend 127 = .ok (.bastore, 1) := by decide +kernel
theorem dX6_mend_128 : decode cX6_mend 128 = .ok (.iconst 0, 1) := by decide +kernel
theorem dX6_mend_129 : decode cX6_mend 129 = .ok (.istore 5, 2) := by decide +kernel
theorem dX6_mend_131 : decode cX6_mend 131 = .ok (.iload 5, 2) := by decide +kernel
theorem dX6_mend_133 : decode cX6_mend 133 = .ok (.aload_n 0, 1) := by decide +kernel
theorem dX6_mend_134 : decode cX6_mend 134 = .ok (.getfield 73, 3) := by decide +kernel
theorem dX6_mend_137 : decode cX6_mend 137 = .ok (.if_icmp .ge 40, 3) := by decide +kernel
theorem dX6_mend_140 : decode cX6_mend 140 = .ok (.iload_n 2, 1) := by decide +kernel
theorem dX6_mend_141 : decode cX6_mend 141 = .ok (.iconst 2, 1) := by decide +kernel
theorem dX6_mend_142 : decode cX6_mend 142 = .ok (.if_icmp .ne 35, 3) := by decide +kernel
theorem dX6_mend_145 : decode cX6_mend 145 = .ok (.iload 4, 2) := by decide +kernel
theorem dX6_mend_147 : decode cX6_mend 147 = .ok (.aload_n 0, 1) := by decide +kernel
theorem dX6_mend_148 : decode cX6_mend 148 = .ok (.getfield 57, 3) := by decide +kernel
theorem dX6_mend_151 : decode cX6_mend 151 = .ok (.iload 5, 2) := by decide +kernel
theorem dX6_mend_153 : decode cX6_mend 153 = .ok (.iaload, 1) := by decide +kernel
theorem dX6_mend_154 : decode cX6_mend 154 = .ok (.aload_n 0, 1) := by decide +kernel
theorem dX6_mend_155 : decode cX6_mend 155 = .ok (.iload 5, 2) := by decide +kernel
theorem dX6_mend_157 : decode cX6_mend 157 = .ok (.invokevirtual 141, 3) := by decide +kernel
theorem dX6_mend_160 : decode cX6_mend 160 = .ok (.if_icmp .eq 7, 3) := by decide +kernel
theorem dX6_mend_163 : decode cX6_mend 163 = .ok (.iconst 1, 1) := by decide +kernel
theorem dX6_mend_164 : decode cX6_mend 164 = .ok (.goto 4, 3) := by decide +kernel
theorem dX6_mend_167 : decode cX6_mend 167 = .ok (.iconst 0, 1) := by decide +kernel
theorem dX6_mend_168 : decode cX6_mend 168 = .ok (.iadd, 1) := by decide +kernel
theorem dX6_mend_169 : decode cX6_mend 169 = .ok (.istore 4, 2) := by decide +kernel
theorem dX6_mend_171 : decode cX6_mend 171 = .ok (.iinc 5 1, 3) := by decide +kernel
theorem dX6_mend_174 : decode cX6_mend 174 = .ok (.goto (-43), 3) := by decide +kernel
theorem dX6_mend_177 : decode cX6_mend 177 = .ok (.aload_n 0, 1) := by decide +kernel
theorem dX6_mend_178 : decode cX6_mend 178 = .ok (.getfield 26, 3) := by decide +kernel
theorem dX6_mend_181 : decode cX6_mend 181 = .ok (.iload_n 1, 1) := by decide +kernel
theorem dX6_mend_182 : decode cX6_mend 182 = .ok (.aload_n 0, 1) := by decide +kernel
theorem dX6_mend_183 : decode cX6_mend 183 = .ok (.getfield 26, 3) := by decide +kernel
theorem dX6_mend_186 : decode cX6_mend 186 = .ok (.iload_n 1, 1) := by decide +kernel
theorem dX6_mend_187 : decode cX6_mend 187 = .ok (.baload, 1) := by decide +kernel
theorem dX6_mend_188 : decode cX6_mend 188 = .ok (.ifCond .ne 7, 3) := by decide +kernel
theorem dX6_mend_191 : decode cX6_mend 191 = .ok (.iconst 1, 1) := by decide +kernel
theorem dX6_mend_192 : decode cX6_mend 192 = .ok (.goto 4, 3) := by decide +kernel
theorem dX6_mend_195 : decode cX6_mend 195 = .ok (.iconst 0, 1) := by decide +kernel
theorem dX6_mend_196 : decode cX6_mend 196 = .ok (.bastore, 1) := by decide +kernel
theorem dX6_mend_197 : decode cX6_mend 197 = .ok (.iload 4, 2) := by decide +kernel
theorem dX6_mend_199 : decode cX6_mend 199 = .ok (.ireturn, 1) := by decide +kernel
set_option maxRecDepth 20000 in
theorem ggX6_goal_X6_in : GoodIn wsX6_goal wsX6_in := goodIn_r _ [5] (by decide +kernel) (by decide +kernel)
set_option maxRecDepth 20000 in
theorem gX6_goal_X6_in : GoodIn wsX6_goal (va_wsS RX6 66 yX6_in wsX6_in) := goodIn_app (goodIn_of _ (by decide +kernel)) ggX6_goal_X6_in
theorem dX6_goal_0 : decode cX6_goal 0 = .ok (.iload_n 1, 1) := by decide +kernel
theorem dX6_goal_1 : decode cX6_goal 1 = .ok (.iconst 1, 1) := by decide +kernel
theorem dX6_goal_2 : decode cX6_goal 2 = .ok (.bipush 20, 2) := by decide +kernel
theorem dX6_goal_4 : decode cX6_goal 4 = .ok (.invokestatic 66, 3) := by decide +kernel
theorem dX6_goal_7 : decode cX6_goal 7 = .ok (.ifCond .ne 6, 3) := by decide +kernel
theorem dX6_goal_10 : decode cX6_goal 10 = .ok (.bipush (-2), 2) := by decide +kernel
theorem dX6_goal_12 : decode cX6_goal 12 = .ok (.ireturn, 1) := by decide +kernel
theorem dX6_goal_13 : decode cX6_goal 13 = .ok (.aload_n 0, 1) := by decide +kernel
theorem dX6_goal_14 : decode cX6_goal 14 = .ok (.getfield 51, 3) := by decide +kernel
theorem dX6_goal_17 : decode cX6_goal 17 = .ok (.istore_n 2, 1) := by decide +kernel
theorem dX6_goal_18 : decode cX6_goal 18 = .ok (.aload_n 0, 1) := by decide +kernel
theorem dX6_goal_19 : decode cX6_goal 19 = .ok (.iload_n 1, 1) := by decide +kernel
theorem dX6_goal_20 : decode cX6_goal 20 = .ok (.putfield 51, 3) := by decide +kernel
theorem dX6_goal_23 : decode cX6_goal 23 = .ok (.iload_n 2, 1) := by decide +kernel
theorem dX6_goal_24 : decode cX6_goal 24 = .ok (.ireturn, 1) := by decide +kernel
theorem dX6_begin_0 : decode cX6_begin 0 = .ok (.aload_n 0, 1) := by decide +kernel
theorem dX6_begin_1 : decode cX6_begin 1 = .ok (.getfield 60, 3) := by decide +kernel
theorem dX6_begin_4 : decode cX6_begin 4 = .ok (.iconst 0, 1) := by decide +kernel
theorem dX6_begin_5 : decode cX6_begin 5 = .ok (.iconst 0, 1) := by decide +kernel
theorem dX6_begin_6 : decode cX6_begin 6 = .ok (.iastore, 1) := by decide +kernel
theorem dX6_begin_7 : decode cX6_begin 7 = .ok (.aload_n 0, 1) := by decide +kernel
theorem dX6_begin_8 : decode cX6_begin 8 = .ok (.getfield 60, 3) := by decide +kernel
theorem dX6_begin_11 : decode cX6_begin 11 = .ok (.iconst 1, 1) := by decide +kernel
theorem dX6_begin_12 : decode cX6_begin 12 = .ok (.iconst 0, 1) := by decide +kernel
theorem dX6_begin_13 : decode cX6_begin 13 = .ok (.iastore, 1) := by decide +kernel
theorem dX6_begin_14 : decode cX6_begin 14 = .ok (.aload_n 0, 1) := by decide +kernel
theorem dX6_begin_15 : decode cX6_begin 15 = .ok (.getfield 60, 3) := by decide +kernel
theorem dX6_begin_18 : decode cX6_begin 18 = .ok (.iconst 2, 1) := by decide +kernel
theorem dX6_begin_19 : decode cX6_begin 19 = .ok (.iconst 0, 1) := by decide +kernel
theorem dX6_begin_20 : decode cX6_begin 20 = .ok (.iastore, 1) := by decide +kernel
theorem dX6_begin_21 : decode cX6_begin 21 = .ok (.aload_n 0, 1) := by decide +kernel
theorem dX6_begin_22 : decode cX6_begin 22 = .ok (.getfield 60, 3) := by decide +kernel
theorem dX6_begin_25 : decode cX6_begin 25 = .ok (.iconst 3, 1) := by decide +kernel
theorem dX6_begin_26 : decode cX6_begin 26 = .ok (.bipush (-6), 2) := by decide +kernel
theorem dX6_begin_28 : decode cX6_begin 28 = .ok (.iastore, 1) := by decide +kernel
theorem dX6_begin_29 : decode cX6_begin 29 = .ok (.return_, 1) := by decide +kernel
theorem dX6_play_0 : decode cX6_play 0 = .ok (.aload_n 0, 1) := by decide +kernel
theorem dX6_play_1 : decode cX6_play 1 = .ok (.getfield 60, 3) := by decide +kernel
theorem dX6_play_4 : decode cX6_play 4 = .ok (.iconst 3, 1) := by decide +kernel
theorem dX6_play_5 : decode cX6_play 5 = .ok (.iaload, 1) := by decide +kernel
theorem dX6_play_6 : decode cX6_play 6 = .ok (.ifCond .lt 4, 3) := by decide +kernel
theorem dX6_play_9 : decode cX6_play 9 = .ok (.return_, 1) := by decide +kernel
theorem dX6_play_10 : decode cX6_play 10 = .ok (.aload_n 0, 1) := by decide +kernel
theorem dX6_play_11 : decode cX6_play 11 = .ok (.getfield 60, 3) := by decide +kernel
theorem dX6_play_14 : decode cX6_play 14 = .ok (.iconst 2, 1) := by decide +kernel
theorem dX6_play_15 : decode cX6_play 15 = .ok (.iaload, 1) := by decide +kernel
theorem dX6_play_16 : decode cX6_play 16 = .ok (.istore_n 2, 1) := by decide +kernel
theorem dX6_play_17 : decode cX6_play 17 = .ok (.aload_n 0, 1) := by decide +kernel
theorem dX6_play_18 : decode cX6_play 18 = .ok (.getfield 60, 3) := by decide +kernel
theorem dX6_play_21 : decode cX6_play 21 = .ok (.iload_n 2, 1) := by decide +kernel
theorem dX6_play_22 : decode cX6_play 22 = .ok (.dup2, 1) := by decide +kernel
theorem dX6_play_23 : decode cX6_play 23 = .ok (.iaload, 1) := by decide +kernel
theorem dX6_play_24 : decode cX6_play 24 = .ok (.iload_n 1, 1) := by decide +kernel
theorem dX6_play_25 : decode cX6_play 25 = .ok (.iconst 1, 1) := by decide +kernel
theorem dX6_play_26 : decode cX6_play 26 = .ok (.if_icmp .ne 7, 3) := by decide +kernel
theorem dX6_play_29 : decode cX6_play 29 = .ok (.iconst 1, 1) := by decide +kernel
theorem dX6_play_30 : decode cX6_play 30 = .ok (.goto 4, 3) := by decide +kernel
theorem dX6_play_33 : decode cX6_play 33 = .ok (.iconst 0, 1) := by decide +kernel
theorem dX6_play_34 : decode cX6_play 34 = .ok (.iadd, 1) := by decide +kernel
theorem dX6_play_35 : decode cX6_play 35 = .ok (.iastore, 1) := by decide +kernel
theorem dX6_play_36 : decode cX6_play 36 = .ok (.aload_n 0, 1) := by decide +kernel
theorem dX6_play_37 : decode cX6_play 37 = .ok (.getfield 60, 3) := by decide +kernel
theorem dX6_play_40 : decode cX6_play 40 = .ok (.iconst 1, 1) := by decide +kernel
theorem dX6_play_41 : decode cX6_play 41 = .ok (.iload_n 2, 1) := by decide +kernel
theorem dX6_play_42 : decode cX6_play 42 = .ok (.isub, 1) := by decide +kernel
theorem dX6_play_43 : decode cX6_play 43 = .ok (.dup2, 1) := by decide +kernel
theorem dX6_play_44 : decode cX6_play 44 = .ok (.iaload, 1) := by decide +kernel
theorem dX6_play_45 : decode cX6_play 45 = .ok (.iload_n 1, 1) := by decide +kernel
theorem dX6_play_46 : decode cX6_play 46 = .ok (.iconst 3, 1) := by decide +kernel
theorem dX6_play_47 : decode cX6_play 47 = .ok (.if_icmp .ne 7, 3) := by decide +kernel
theorem dX6_play_50 : decode cX6_play 50 = .ok (.iconst 1, 1) := by decide +kernel
theorem dX6_play_51 : decode cX6_play 51 = .ok (.goto 4, 3) := by decide +kernel
theorem dX6_play_54 : decode cX6_play 54 = .ok (.iconst 0, 1) := by decide +kernel
theorem dX6_play_55 : decode cX6_play 55 = .ok (.iadd, 1) := by decide +kernel
theorem dX6_play_56 : decode cX6_play 56 = .ok (.iastore, 1) := by decide +kernel
theorem dX6_play_57 : decode cX6_play 57 = .ok (.aload_n 0, 1) := by decide +kernel
theorem dX6_play_58 : decode cX6_play 58 = .ok (.getfield 60, 3) := by decide +kernel
theorem dX6_play_61 : decode cX6_play 61 = .ok (.iconst 2, 1) := by decide +kernel
theorem dX6_play_62 : decode cX6_play 62 = .ok (.iload_n 1, 1) := by decide +kernel
theorem dX6_play_63 : decode cX6_play 63 = .ok (.iconst 2, 1) := by decide +kernel
theorem dX6_play_64 : decode cX6_play 64 = .ok (.if_icmp .eq 8, 3) := by decide +kernel
theorem dX6_play_67 : decode cX6_play 67 = .ok (.iload_n 1, 1) := by decide +kernel
theorem dX6_play_68 : decode cX6_play 68 = .ok (.iconst 3, 1) := by decide +kernel
theorem dX6_play_69 : decode cX6_play 69 = .ok (.if_icmp .ne 9, 3) := by decide +kernel
theorem dX6_play_72 : decode cX6_play 72 = .ok (.iconst 1, 1) := by decide +kernel
theorem dX6_play_73 : decode cX6_play 73 = .ok (.iload_n 2, 1) := by decide +kernel
theorem dX6_play_74 : decode cX6_play 74 = .ok (.isub, 1) := by decide +kernel
theorem dX6_play_75 : decode cX6_play 75 = .ok (.goto 4, 3) := by decide +kernel
theorem dX6_play_78 : decode cX6_play 78 = .ok (.iload_n 2, 1) := by decide +kernel
theorem dX6_play_79 : decode cX6_play 79 = .ok (.iastore, 1) := by decide +kernel
theorem dX6_play_80 : decode cX6_play 80 = .ok (.aload_n 0, 1) := by decide +kernel
theorem dX6_play_81 : decode cX6_play 81 = .ok (.getfield 60, 3) := by decide +kernel
theorem dX6_play_84 : decode cX6_play 84 = .ok (.iconst 3, 1) := by decide +kernel
theorem dX6_play_85 : decode cX6_play 85 = .ok (.aload_n 0, 1) := by decide +kernel
theorem dX6_play_86 : decode cX6_play 86 = .ok (.getfield 60, 3) := by decide +kernel
theorem dX6_play_89 : decode cX6_play 89 = .ok (.iconst 0, 1) := by decide +kernel
theorem dX6_play_90 : decode cX6_play 90 = .ok (.iaload, 1) := by decide +kernel
theorem dX6_play_91 : decode cX6_play 91 = .ok (.aload_n 0, 1) := by decide +kernel
theorem dX6_play_92 : decode cX6_play 92 = .ok (.getfield 51, 3) := by decide +kernel
theorem dX6_play_95 : decode cX6_play 95 = .ok (.if_icmp .lt 7, 3) := by decide +kernel
theorem dX6_play_98 : decode cX6_play 98 = .ok (.iconst 0, 1) := by decide +kernel
theorem dX6_play_99 : decode cX6_play 99 = .ok (.goto 22, 3) := by decide +kernel
theorem dX6_play_102 : decode cX6_play 102 = .ok (.aload_n 0, 1) := by decide +kernel
theorem dX6_play_103 : decode cX6_play 103 = .ok (.getfield 60, 3) := by decide +kernel
theorem dX6_play_106 : decode cX6_play 106 = .ok (.iconst 1, 1) := by decide +kernel
theorem dX6_play_107 : decode cX6_play 107 = .ok (.iaload, 1) := by decide +kernel
theorem dX6_play_108 : decode cX6_play 108 = .ok (.aload_n 0, 1) := by decide +kernel
theorem dX6_play_109 : decode cX6_play 109 = .ok (.getfield 51, 3) := by decide +kernel
theorem dX6_play_112 : decode cX6_play 112 = .ok (.if_icmp .lt 7, 3) := by decide +kernel
theorem dX6_play_115 : decode cX6_play 115 = .ok (.iconst 1, 1) := by decide +kernel
theorem dX6_play_116 : decode cX6_play 116 = .ok (.goto 5, 3) := by decide +kernel
theorem dX6_play_119 : decode cX6_play 119 = .ok (.bipush (-6), 2) := by decide +kernel
theorem dX6_play_121 : decode cX6_play 121 = .ok (.iastore, 1) := by decide +kernel
theorem dX6_play_122 : decode cX6_play 122 = .ok (.return_, 1) := by decide +kernel
set_option maxRecDepth 20000 in
theorem ggX6_score_X6_in : GoodIn wsX6_score wsX6_in := goodIn_r _ [6] (by decide +kernel) (by decide +kernel)
set_option maxRecDepth 20000 in
theorem gX6_score_X6_in : GoodIn wsX6_score (va_wsS RX6 66 yX6_in wsX6_in) := goodIn_app (goodIn_of _ (by decide +kernel)) ggX6_score_X6_in
set_option maxRecDepth 20000 in
theorem ggX6_score_X6_begin : GoodIn wsX6_score wsX6_begin := goodIn_r _ [10, 2, 79, 80, 81, 82, 83, 84, 85, 86, 87, 88, 89, 90, 91, 92, 93, 94, 95, 96, 97, 98, 99] (by decide +kernel) (by decide +kernel)
set_option maxRecDepth 20000 in
theorem gX6_score_X6_begin : GoodIn wsX6_score (wsV RX6 144 RX6 yX6_begin wsX6_begin) := goodIn_app (goodIn_of _ (by decide +kernel)) ggX6_score_X6_begin
set_option maxRecDepth 20000 in
theorem ggX6_score_X6_verdictOf : GoodIn wsX6_score wsX6_verdictOf := goodIn_r _ [14, 15, 16, 17, 18, 19, 5, 20, 21, 22, 23, 24, 25, 26, 27, 28, 29, 30, 31, 32, 33, 34, 3, 4, 6, 35, 36, 37, 38, 39, 40, 41, 42, 43, 44, 45, 46, 47, 48, 49, 50, 51, 52, 53, 54, 55, 56, 57, 58, 59, 60, 61, 62, 63, 64, 65, 66, 67, 68, 69, 70, 71, 72, 73, 79, 80, 81, 82, 83, 84, 85, 86, 87, 88, 89, 90, 91, 92, 93, 94, 95, 96, 97, 98, 99] (by decide +kernel) (by decide +kernel)
set_option maxRecDepth 20000 in
theorem gX6_score_X6_verdictOf : GoodIn wsX6_score (wsV RX6 141 RX6 yX6_verdictOf wsX6_verdictOf) := goodIn_app (goodIn_of _ (by decide +kernel)) ggX6_score_X6_verdictOf
set_option maxRecDepth 20000 in
theorem ggX6_score_X6_play : GoodIn wsX6_score wsX6_play := goodIn_r _ [77, 2, 78, 79, 80, 81, 82, 83, 84, 85, 86, 87, 88, 89, 90, 91, 92, 93, 94, 95, 96, 97, 98, 99] (by decide +kernel) (by decide +kernel)
set_option maxRecDepth 20000 in
theorem gX6_score_X6_play : GoodIn wsX6_score (wsV RX6 147 RX6 yX6_play wsX6_play) := goodIn_app (goodIn_of _ (by decide +kernel)) ggX6_score_X6_play
theorem dX6_score_0 : decode cX6_score 0 = .ok (.iload_n 1, 1) := by decide +kernel
theorem dX6_score_1 : decode cX6_score 1 = .ok (.iconst 0, 1) := by decide +kernel
theorem dX6_score_2 : decode cX6_score 2 = .ok (.aload_n 0, 1) := by decide +kernel
theorem dX6_score_3 : decode cX6_score 3 = .ok (.getfield 73, 3) := by decide +kernel
theorem dX6_score_6 : decode cX6_score 6 = .ok (.invokestatic 66, 3) := by decide +kernel
theorem dX6_score_9 : decode cX6_score 9 = .ok (.ifCond .eq 12, 3) := by decide +kernel
theorem dX6_score_12 : decode cX6_score 12 = .ok (.iload_n 2, 1) := by decide +kernel
theorem dX6_score_13 : decode cX6_score 13 = .ok (.iconst 0, 1) := by decide +kernel
theorem dX6_score_14 : decode cX6_score 14 = .ok (.iconst 3, 1) := by decide +kernel
theorem dX6_score_15 : decode cX6_score 15 = .ok (.invokestatic 66, 3) := by decide +kernel
theorem dX6_score_18 : decode cX6_score 18 = .ok (.ifCond .ne 6, 3) := by decide +kernel
theorem dX6_score_21 : decode cX6_score 21 = .ok (.bipush (-2), 2) := by decide +kernel
theorem dX6_score_23 : decode cX6_score 23 = .ok (.ireturn, 1) := by decide +kernel
theorem dX6_score_24 : decode cX6_score 24 = .ok (.aload_n 0, 1) := by decide +kernel
theorem dX6_score_25 : decode cX6_score 25 = .ok (.invokevirtual 144, 3) := by decide +kernel
theorem dX6_score_28 : decode cX6_score 28 = .ok (.iconst 0, 1) := by decide +kernel
theorem dX6_score_29 : decode cX6_score 29 = .ok (.istore_n 3, 1) := by decide +kernel
theorem dX6_score_30 : decode cX6_score 30 = .ok (.iload_n 3, 1) := by decide +kernel
theorem dX6_score_31 : decode cX6_score 31 = .ok (.iload_n 1, 1) := by decide +kernel
theorem dX6_score_32 : decode cX6_score 32 = .ok (.if_icmp .ge 18, 3) := by decide +kernel
theorem dX6_score_35 : decode cX6_score 35 = .ok (.aload_n 0, 1) := by decide +kernel
theorem dX6_score_36 : decode cX6_score 36 = .ok (.aload_n 0, 1) := by decide +kernel
theorem dX6_score_37 : decode cX6_score 37 = .ok (.iload_n 3, 1) := by decide +kernel
theorem dX6_score_38 : decode cX6_score 38 = .ok (.invokevirtual 141, 3) := by decide +kernel
theorem dX6_score_41 : decode cX6_score 41 = .ok (.invokevirtual 147, 3) := by decide +kernel
theorem dX6_score_44 : decode cX6_score 44 = .ok (.iinc 3 1, 3) := by decide +kernel
theorem dX6_score_47 : decode cX6_score 47 = .ok (.goto (-17), 3) := by decide +kernel
theorem dX6_score_50 : decode cX6_score 50 = .ok (.aload_n 0, 1) := by decide +kernel
theorem dX6_score_51 : decode cX6_score 51 = .ok (.getfield 60, 3) := by decide +kernel
theorem dX6_score_54 : decode cX6_score 54 = .ok (.iload_n 2, 1) := by decide +kernel
theorem dX6_score_55 : decode cX6_score 55 = .ok (.iaload, 1) := by decide +kernel
theorem dX6_score_56 : decode cX6_score 56 = .ok (.ireturn, 1) := by decide +kernel
theorem dX6_packed_0 : decode cX6_packed 0 = .ok (.aload_n 0, 1) := by decide +kernel
theorem dX6_packed_1 : decode cX6_packed 1 = .ok (.getfield 60, 3) := by decide +kernel
theorem dX6_packed_4 : decode cX6_packed 4 = .ok (.iconst 0, 1) := by decide +kernel
theorem dX6_packed_5 : decode cX6_packed 5 = .ok (.iaload, 1) := by decide +kernel
theorem dX6_packed_6 : decode cX6_packed 6 = .ok (.bipush 32, 2) := by decide +kernel
theorem dX6_packed_8 : decode cX6_packed 8 = .ok (.imul, 1) := by decide +kernel
theorem dX6_packed_9 : decode cX6_packed 9 = .ok (.aload_n 0, 1) := by decide +kernel
theorem dX6_packed_10 : decode cX6_packed 10 = .ok (.getfield 60, 3) := by decide +kernel
theorem dX6_packed_13 : decode cX6_packed 13 = .ok (.iconst 1, 1) := by decide +kernel
theorem dX6_packed_14 : decode cX6_packed 14 = .ok (.iaload, 1) := by decide +kernel
theorem dX6_packed_15 : decode cX6_packed 15 = .ok (.iadd, 1) := by decide +kernel
theorem dX6_packed_16 : decode cX6_packed 16 = .ok (.iconst 2, 1) := by decide +kernel
theorem dX6_packed_17 : decode cX6_packed 17 = .ok (.imul, 1) := by decide +kernel
theorem dX6_packed_18 : decode cX6_packed 18 = .ok (.aload_n 0, 1) := by decide +kernel
theorem dX6_packed_19 : decode cX6_packed 19 = .ok (.getfield 60, 3) := by decide +kernel
theorem dX6_packed_22 : decode cX6_packed 22 = .ok (.iconst 2, 1) := by decide +kernel
theorem dX6_packed_23 : decode cX6_packed 23 = .ok (.iaload, 1) := by decide +kernel
theorem dX6_packed_24 : decode cX6_packed 24 = .ok (.iadd, 1) := by decide +kernel
theorem dX6_packed_25 : decode cX6_packed 25 = .ok (.bipush 8, 2) := by decide +kernel
theorem dX6_packed_27 : decode cX6_packed 27 = .ok (.imul, 1) := by decide +kernel
theorem dX6_packed_28 : decode cX6_packed 28 = .ok (.aload_n 0, 1) := by decide +kernel
theorem dX6_packed_29 : decode cX6_packed 29 = .ok (.getfield 60, 3) := by decide +kernel
theorem dX6_packed_32 : decode cX6_packed 32 = .ok (.iconst 3, 1) := by decide +kernel
theorem dX6_packed_33 : decode cX6_packed 33 = .ok (.iaload, 1) := by decide +kernel
theorem dX6_packed_34 : decode cX6_packed 34 = .ok (.iadd, 1) := by decide +kernel
theorem dX6_packed_35 : decode cX6_packed 35 = .ok (.bipush 6, 2) := by decide +kernel
theorem dX6_packed_37 : decode cX6_packed 37 = .ok (.iadd, 1) := by decide +kernel
theorem dX6_packed_38 : decode cX6_packed 38 = .ok (.ireturn, 1) := by decide +kernel
set_option maxRecDepth 20000 in
theorem ggX6_appeal_X6_isMoment : GoodIn wsX6_appeal wsX6_isMoment := goodIn_r _ [8, 1, 9, 10, 7, 11, 92, 93, 94, 95, 96, 97, 98, 99, 100, 101, 102, 103, 104, 105, 106, 107, 108, 109, 110, 111, 112] (by decide +kernel) (by decide +kernel)
set_option maxRecDepth 20000 in
theorem gX6_appeal_X6_isMoment : GoodIn wsX6_appeal (wsV RX6 118 RX6 yX6_isMoment wsX6_isMoment) := goodIn_app (goodIn_of _ (by decide +kernel)) ggX6_appeal_X6_isMoment
set_option maxRecDepth 20000 in
theorem ggX6_appeal_X6_isRuling : GoodIn wsX6_appeal wsX6_isRuling := goodIn_r _ [14, 9, 10, 7, 11] (by decide +kernel) (by decide +kernel)
set_option maxRecDepth 20000 in
theorem gX6_appeal_X6_isRuling : GoodIn wsX6_appeal (va_wsS RX6 87 yX6_isRuling wsX6_isRuling) := goodIn_app (goodIn_of _ (by decide +kernel)) ggX6_appeal_X6_isRuling
set_option maxRecDepth 20000 in
theorem ggX6_appeal_X6_begin : GoodIn wsX6_appeal wsX6_begin := goodIn_r _ [18, 19, 92, 93, 94, 95, 96, 97, 98, 99, 100, 101, 102, 103, 104, 105, 106, 107, 108, 109, 110, 111, 112] (by decide +kernel) (by decide +kernel)
set_option maxRecDepth 20000 in
theorem gX6_appeal_X6_begin : GoodIn wsX6_appeal (wsV RX6 144 RX6 yX6_begin wsX6_begin) := goodIn_app (goodIn_of _ (by decide +kernel)) ggX6_appeal_X6_begin
set_option maxRecDepth 20000 in
theorem ggX6_appeal_X6_verdictOf : GoodIn wsX6_appeal wsX6_verdictOf := goodIn_r _ [23, 24, 25, 26, 27, 28, 7, 29, 30, 31, 32, 33, 34, 35, 36, 37, 38, 39, 40, 41, 42, 43, 9, 10, 11, 44, 45, 46, 47, 48, 49, 50, 51, 52, 53, 54, 55, 56, 57, 58, 59, 60, 61, 62, 63, 64, 65, 66, 67, 68, 69, 70, 71, 72, 73, 74, 75, 76, 77, 78, 79, 80, 81, 82, 92, 93, 94, 95, 96, 97, 98, 99, 100, 101, 102, 103, 104, 105, 106, 107, 108, 109, 110, 111, 112] (by decide +kernel) (by decide +kernel)
set_option maxRecDepth 20000 in
theorem gX6_appeal_X6_verdictOf : GoodIn wsX6_appeal (wsV RX6 141 RX6 yX6_verdictOf wsX6_verdictOf) := goodIn_app (goodIn_of _ (by decide +kernel)) ggX6_appeal_X6_verdictOf
set_option maxRecDepth 20000 in
theorem ggX6_appeal_X6_play : GoodIn wsX6_appeal wsX6_play := goodIn_r _ [86, 19, 87, 92, 93, 94, 95, 96, 97, 98, 99, 100, 101, 102, 103, 104, 105, 106, 107, 108, 109, 110, 111, 112] (by decide +kernel) (by decide +kernel)
set_option maxRecDepth 20000 in
theorem gX6_appeal_X6_play : GoodIn wsX6_appeal (wsV RX6 147 RX6 yX6_play wsX6_play) := goodIn_app (goodIn_of _ (by decide +kernel)) ggX6_appeal_X6_play
set_option maxRecDepth 20000 in
theorem ggX6_appeal_X6_packed : GoodIn wsX6_appeal wsX6_packed := goodIn_r _ [91, 19, 92, 93, 94, 95, 96, 97, 98, 99, 100, 101, 102, 103, 104, 105, 106, 107, 108, 109, 110, 111, 112] (by decide +kernel) (by decide +kernel)
set_option maxRecDepth 20000 in
theorem gX6_appeal_X6_packed : GoodIn wsX6_appeal (wsV RX6 151 RX6 yX6_packed wsX6_packed) := goodIn_app (goodIn_of _ (by decide +kernel)) ggX6_appeal_X6_packed
theorem dX6_appeal_0 : decode cX6_appeal 0 = .ok (.aload_n 0, 1) := by decide +kernel
theorem dX6_appeal_1 : decode cX6_appeal 1 = .ok (.iload_n 1, 1) := by decide +kernel
theorem dX6_appeal_2 : decode cX6_appeal 2 = .ok (.invokevirtual 118, 3) := by decide +kernel
theorem dX6_appeal_5 : decode cX6_appeal 5 = .ok (.ifCond .ne 5, 3) := by decide +kernel
theorem dX6_appeal_8 : decode cX6_appeal 8 = .ok (.iconst (-1), 1) := by decide +kernel
theorem dX6_appeal_9 : decode cX6_appeal 9 = .ok (.ireturn, 1) := by decide +kernel
theorem dX6_appeal_10 : decode cX6_appeal 10 = .ok (.iload_n 2, 1) := by decide +kernel
theorem dX6_appeal_11 : decode cX6_appeal 11 = .ok (.invokestatic 87, 3) := by decide +kernel
theorem dX6_appeal_14 : decode cX6_appeal 14 = .ok (.ifCond .ne 6, 3) := by decide +kernel
theorem dX6_appeal_17 : decode cX6_appeal 17 = .ok (.bipush (-2), 2) := by decide +kernel
theorem dX6_appeal_19 : decode cX6_appeal 19 = .ok (.ireturn, 1) := by decide +kernel
theorem dX6_appeal_20 : decode cX6_appeal 20 = .ok (.aload_n 0, 1) := by decide +kernel
theorem dX6_appeal_21 : decode cX6_appeal 21 = .ok (.invokevirtual 144, 3) := by decide +kernel
theorem dX6_appeal_24 : decode cX6_appeal 24 = .ok (.iconst 0, 1) := by decide +kernel
theorem dX6_appeal_25 : decode cX6_appeal 25 = .ok (.istore_n 3, 1) := by decide +kernel
theorem dX6_appeal_26 : decode cX6_appeal 26 = .ok (.iload_n 3, 1) := by decide +kernel
theorem dX6_appeal_27 : decode cX6_appeal 27 = .ok (.aload_n 0, 1) := by decide +kernel
theorem dX6_appeal_28 : decode cX6_appeal 28 = .ok (.getfield 73, 3) := by decide +kernel
theorem dX6_appeal_31 : decode cX6_appeal 31 = .ok (.if_icmp .ge 40, 3) := by decide +kernel
theorem dX6_appeal_34 : decode cX6_appeal 34 = .ok (.aload_n 0, 1) := by decide +kernel
theorem dX6_appeal_35 : decode cX6_appeal 35 = .ok (.getfield 57, 3) := by decide +kernel
theorem dX6_appeal_38 : decode cX6_appeal 38 = .ok (.iload_n 3, 1) := by decide +kernel
theorem dX6_appeal_39 : decode cX6_appeal 39 = .ok (.aload_n 0, 1) := by decide +kernel
theorem dX6_appeal_40 : decode cX6_appeal 40 = .ok (.iload_n 3, 1) := by decide +kernel
theorem dX6_appeal_41 : decode cX6_appeal 41 = .ok (.invokevirtual 141, 3) := by decide +kernel
theorem dX6_appeal_44 : decode cX6_appeal 44 = .ok (.iastore, 1) := by decide +kernel
theorem dX6_appeal_45 : decode cX6_appeal 45 = .ok (.aload_n 0, 1) := by decide +kernel
theorem dX6_appeal_46 : decode cX6_appeal 46 = .ok (.aload_n 0, 1) := by decide +kernel
theorem dX6_appeal_47 : decode cX6_appeal 47 = .ok (.getfield 57, 3) := by decide +kernel
theorem dX6_appeal_50 : decode cX6_appeal 50 = .ok (.iload_n 3, 1) := by decide +kernel
theorem dX6_appeal_51 : decode cX6_appeal 51 = .ok (.iaload, 1) := by decide +kernel
theorem dX6_appeal_52 : decode cX6_appeal 52 = .ok (.invokevirtual 147, 3) := by decide +kernel
theorem dX6_appeal_55 : decode cX6_appeal 55 = .ok (.aload_n 0, 1) := by decide +kernel
theorem dX6_appeal_56 : decode cX6_appeal 56 = .ok (.getfield 63, 3) := by decide +kernel
theorem dX6_appeal_59 : decode cX6_appeal 59 = .ok (.iload_n 3, 1) := by decide +kernel
theorem dX6_appeal_60 : decode cX6_appeal 60 = .ok (.aload_n 0, 1) := by decide +kernel
theorem dX6_appeal_61 : decode cX6_appeal 61 = .ok (.invokevirtual 151, 3) := by decide +kernel
theorem dX6_appeal_64 : decode cX6_appeal 64 = .ok (.iastore, 1) := by decide +kernel
theorem dX6_appeal_65 : decode cX6_appeal 65 = .ok (.iinc 3 1, 3) := by decide +kernel
theorem dX6_appeal_68 : decode cX6_appeal 68 = .ok (.goto (-42), 3) := by decide +kernel
theorem dX6_appeal_71 : decode cX6_appeal 71 = .ok (.aload_n 0, 1) := by decide +kernel
theorem dX6_appeal_72 : decode cX6_appeal 72 = .ok (.invokevirtual 144, 3) := by decide +kernel
theorem dX6_appeal_75 : decode cX6_appeal 75 = .ok (.iconst 0, 1) := by decide +kernel
theorem dX6_appeal_76 : decode cX6_appeal 76 = .ok (.istore_n 3, 1) := by decide +kernel
theorem dX6_appeal_77 : decode cX6_appeal 77 = .ok (.iload_n 3, 1) := by decide +kernel
theorem dX6_appeal_78 : decode cX6_appeal 78 = .ok (.aload_n 0, 1) := by decide +kernel
theorem dX6_appeal_79 : decode cX6_appeal 79 = .ok (.getfield 73, 3) := by decide +kernel
theorem dX6_appeal_82 : decode cX6_appeal 82 = .ok (.if_icmp .ge 43, 3) := by decide +kernel
theorem dX6_appeal_85 : decode cX6_appeal 85 = .ok (.aload_n 0, 1) := by decide +kernel
theorem dX6_appeal_86 : decode cX6_appeal 86 = .ok (.iload_n 3, 1) := by decide +kernel
theorem dX6_appeal_87 : decode cX6_appeal 87 = .ok (.iload_n 1, 1) := by decide +kernel
theorem dX6_appeal_88 : decode cX6_appeal 88 = .ok (.if_icmp .ne 7, 3) := by decide +kernel
theorem dX6_appeal_91 : decode cX6_appeal 91 = .ok (.iload_n 2, 1) := by decide +kernel
theorem dX6_appeal_92 : decode cX6_appeal 92 = .ok (.goto 9, 3) := by decide +kernel
theorem dX6_appeal_95 : decode cX6_appeal 95 = .ok (.aload_n 0, 1) := by decide +kernel
theorem dX6_appeal_96 : decode cX6_appeal 96 = .ok (.getfield 57, 3) := by decide +kernel
theorem dX6_appeal_99 : decode cX6_appeal 99 = .ok (.iload_n 3, 1) := by decide +kernel
theorem dX6_appeal_100 : decode cX6_appeal 100 = .ok (.iaload, 1) := by decide +kernel
theorem dX6_appeal_101 : decode cX6_appeal 101 = .ok (.invokevirtual 147, 3) := by decide +kernel
theorem dX6_appeal_104 : decode cX6_appeal 104 = .ok (.aload_n 0, 1) := by decide +kernel
theorem dX6_appeal_105 : decode cX6_appeal 105 = .ok (.invokevirtual 151, 3) := by decide +kernel
theorem dX6_appeal_108 : decode cX6_appeal 108 = .ok (.aload_n 0, 1) := by decide +kernel
theorem dX6_appeal_109 : decode cX6_appeal 109 = .ok (.getfield 63, 3) := by decide +kernel
theorem dX6_appeal_112 : decode cX6_appeal 112 = .ok (.iload_n 3, 1) := by decide +kernel
theorem dX6_appeal_113 : decode cX6_appeal 113 = .ok (.iaload, 1) := by decide +kernel
theorem dX6_appeal_114 : decode cX6_appeal 114 = .ok (.if_icmp .eq 5, 3) := by decide +kernel
theorem dX6_appeal_117 : decode cX6_appeal 117 = .ok (.iload_n 3, 1) := by decide +kernel
theorem dX6_appeal_118 : decode cX6_appeal 118 = .ok (.ireturn, 1) := by decide +kernel
theorem dX6_appeal_119 : decode cX6_appeal 119 = .ok (.iinc 3 1, 3) := by decide +kernel
theorem dX6_appeal_122 : decode cX6_appeal 122 = .ok (.goto (-45), 3) := by decide +kernel
theorem dX6_appeal_125 : decode cX6_appeal 125 = .ok (.bipush (-6), 2) := by decide +kernel
theorem dX6_appeal_127 : decode cX6_appeal 127 = .ok (.ireturn, 1) := by decide +kernel
set_option maxRecDepth 20000 in
theorem ggX6_kinds_X6_allFacts : GoodIn wsX6_kinds wsX6_allFacts := goodIn_r _ [5, 6, 28, 29, 30, 31, 32, 33, 34, 35, 36, 37, 38, 39, 40, 41, 42, 43, 44, 45, 46, 47, 48] (by decide +kernel) (by decide +kernel)
set_option maxRecDepth 20000 in
theorem gX6_kinds_X6_allFacts : GoodIn wsX6_kinds (wsV RX6 83 RX6 yX6_allFacts wsX6_allFacts) := goodIn_app (goodIn_of _ (by decide +kernel)) ggX6_kinds_X6_allFacts
set_option maxRecDepth 20000 in
theorem ggX6_kinds_X6_isKind : GoodIn wsX6_kinds wsX6_isKind := goodIn_r _ [10, 6, 11, 1, 2, 3, 4, 5, 12, 13, 14, 28, 29, 30, 31, 32, 33, 34, 35, 36, 37, 38, 39, 40, 41, 42, 43, 44, 45, 46, 47, 48] (by decide +kernel) (by decide +kernel)
set_option maxRecDepth 20000 in
theorem gX6_kinds_X6_isKind : GoodIn wsX6_kinds (wsV RX6 100 RX6 yX6_isKind wsX6_isKind) := goodIn_app (goodIn_of _ (by decide +kernel)) ggX6_kinds_X6_isKind
set_option maxRecDepth 20000 in
theorem ggX6_kinds_X6_lineFor : GoodIn wsX6_kinds wsX6_lineFor := goodIn_r _ [18, 19, 20, 21, 22, 23, 4, 24, 25, 26, 27, 28, 29, 30, 31, 32, 33, 34, 35, 36, 37, 38, 39, 40, 41, 42, 43, 44, 45, 46, 47, 48] (by decide +kernel) (by decide +kernel)
set_option maxRecDepth 20000 in
theorem gX6_kinds_X6_lineFor : GoodIn wsX6_kinds (wsV RX6 106 RX6 yX6_lineFor wsX6_lineFor) := goodIn_app (goodIn_of _ (by decide +kernel)) ggX6_kinds_X6_lineFor
theorem dX6_kinds_0 : decode cX6_kinds 0 = .ok (.iconst 0, 1) := by decide +kernel
theorem dX6_kinds_1 : decode cX6_kinds 1 = .ok (.istore_n 2, 1) := by decide +kernel
theorem dX6_kinds_2 : decode cX6_kinds 2 = .ok (.iconst 0, 1) := by decide +kernel
theorem dX6_kinds_3 : decode cX6_kinds 3 = .ok (.istore_n 3, 1) := by decide +kernel
theorem dX6_kinds_4 : decode cX6_kinds 4 = .ok (.iload_n 3, 1) := by decide +kernel
theorem dX6_kinds_5 : decode cX6_kinds 5 = .ok (.aload_n 0, 1) := by decide +kernel
theorem dX6_kinds_6 : decode cX6_kinds 6 = .ok (.invokevirtual 83, 3) := by decide +kernel
theorem dX6_kinds_9 : decode cX6_kinds 9 = .ok (.if_icmp .gt 37, 3) := by decide +kernel
theorem dX6_kinds_12 : decode cX6_kinds 12 = .ok (.iload_n 2, 1) := by decide +kernel
theorem dX6_kinds_13 : decode cX6_kinds 13 = .ok (.aload_n 0, 1) := by decide +kernel
theorem dX6_kinds_14 : decode cX6_kinds 14 = .ok (.iload_n 3, 1) := by decide +kernel
theorem dX6_kinds_15 : decode cX6_kinds 15 = .ok (.invokevirtual 100, 3) := by decide +kernel
theorem dX6_kinds_18 : decode cX6_kinds 18 = .ok (.ifCond .eq 19, 3) := by decide +kernel
theorem dX6_kinds_21 : decode cX6_kinds 21 = .ok (.iload_n 1, 1) := by decide +kernel
theorem dX6_kinds_22 : decode cX6_kinds 22 = .ok (.ifCond .eq 11, 3) := by decide +kernel
theorem dX6_kinds_25 : decode cX6_kinds 25 = .ok (.aload_n 0, 1) := by decide +kernel
theorem dX6_kinds_26 : decode cX6_kinds 26 = .ok (.iload_n 3, 1) := by decide +kernel
theorem dX6_kinds_27 : decode cX6_kinds 27 = .ok (.invokevirtual 106, 3) := by decide +kernel
theorem dX6_kinds_30 : decode cX6_kinds 30 = .ok (.ifCond .lt 7, 3) := by decide +kernel
theorem dX6_kinds_33 : decode cX6_kinds 33 = .ok (.iconst 1, 1) := by decide +kernel
theorem dX6_kinds_34 : decode cX6_kinds 34 = .ok (.goto 4, 3) := by decide +kernel
theorem dX6_kinds_37 : decode cX6_kinds 37 = .ok (.iconst 0, 1) := by decide +kernel
theorem dX6_kinds_38 : decode cX6_kinds 38 = .ok (.iadd, 1) := by decide +kernel
theorem dX6_kinds_39 : decode cX6_kinds 39 = .ok (.istore_n 2, 1) := by decide +kernel
theorem dX6_kinds_40 : decode cX6_kinds 40 = .ok (.iinc 3 1, 3) := by decide +kernel
theorem dX6_kinds_43 : decode cX6_kinds 43 = .ok (.goto (-39), 3) := by decide +kernel
theorem dX6_kinds_46 : decode cX6_kinds 46 = .ok (.iload_n 2, 1) := by decide +kernel
theorem dX6_kinds_47 : decode cX6_kinds 47 = .ok (.ireturn, 1) := by decide +kernel
set_option maxRecDepth 20000 in
theorem ggX6_told_X6_kinds : GoodIn wsX6_told wsX6_kinds := goodIn_r _ [10, 11, 12, 13, 9, 14, 1, 15, 16, 17, 18, 19, 20, 21, 22, 23, 24, 25, 26, 2, 27, 28, 29, 30, 31, 32, 33, 34, 35, 36, 37, 38, 39, 40, 41, 42, 43, 44, 45, 46, 47, 48, 49, 50, 51, 52, 53, 54, 55] (by decide +kernel) (by decide +kernel)
set_option maxRecDepth 20000 in
theorem gX6_told_X6_kinds : GoodIn wsX6_told (wsV RX6 154 RX6 yX6_kinds wsX6_kinds) := goodIn_app (goodIn_of _ (by decide +kernel)) ggX6_told_X6_kinds
theorem dX6_told_0 : decode cX6_told 0 = .ok (.iload_n 1, 1) := by decide +kernel
theorem dX6_told_1 : decode cX6_told 1 = .ok (.tableswitch 80 0 6 #[43, 48, 54, 59, 64, 69, 74], 43) := by decide +kernel
theorem dX6_told_44 : decode cX6_told 44 = .ok (.aload_n 0, 1) := by decide +kernel
theorem dX6_told_45 : decode cX6_told 45 = .ok (.getfield 7, 3) := by decide +kernel
theorem dX6_told_48 : decode cX6_told 48 = .ok (.ireturn, 1) := by decide +kernel
theorem dX6_told_49 : decode cX6_told 49 = .ok (.aload_n 0, 1) := by decide +kernel
theorem dX6_told_50 : decode cX6_told 50 = .ok (.iconst 0, 1) := by decide +kernel
theorem dX6_told_51 : decode cX6_told 51 = .ok (.invokevirtual 154, 3) := by decide +kernel
theorem dX6_told_54 : decode cX6_told 54 = .ok (.ireturn, 1) := by decide +kernel
theorem dX6_told_55 : decode cX6_told 55 = .ok (.aload_n 0, 1) := by decide +kernel
theorem dX6_told_56 : decode cX6_told 56 = .ok (.getfield 70, 3) := by decide +kernel
theorem dX6_told_59 : decode cX6_told 59 = .ok (.ireturn, 1) := by decide +kernel
theorem dX6_told_60 : decode cX6_told 60 = .ok (.aload_n 0, 1) := by decide +kernel
theorem dX6_told_61 : decode cX6_told 61 = .ok (.getfield 73, 3) := by decide +kernel
theorem dX6_told_64 : decode cX6_told 64 = .ok (.ireturn, 1) := by decide +kernel
theorem dX6_told_65 : decode cX6_told 65 = .ok (.aload_n 0, 1) := by decide +kernel
theorem dX6_told_66 : decode cX6_told 66 = .ok (.getfield 76, 3) := by decide +kernel
theorem dX6_told_69 : decode cX6_told 69 = .ok (.ireturn, 1) := by decide +kernel
theorem dX6_told_70 : decode cX6_told 70 = .ok (.aload_n 0, 1) := by decide +kernel
theorem dX6_told_71 : decode cX6_told 71 = .ok (.getfield 51, 3) := by decide +kernel
theorem dX6_told_74 : decode cX6_told 74 = .ok (.ireturn, 1) := by decide +kernel
theorem dX6_told_75 : decode cX6_told 75 = .ok (.aload_n 0, 1) := by decide +kernel
theorem dX6_told_76 : decode cX6_told 76 = .ok (.iconst 1, 1) := by decide +kernel
theorem dX6_told_77 : decode cX6_told 77 = .ok (.invokevirtual 154, 3) := by decide +kernel
theorem dX6_told_80 : decode cX6_told 80 = .ok (.ireturn, 1) := by decide +kernel
theorem dX6_told_81 : decode cX6_told 81 = .ok (.bipush (-2), 2) := by decide +kernel
theorem dX6_told_83 : decode cX6_told 83 = .ok (.ireturn, 1) := by decide +kernel
