theorem dX10_init_0 : decode cX10_init 0 = .ok (.aload_n 0, 1) := by decide +kernel
theorem dX10_init_1 : decode cX10_init 1 = .ok (.invokespecial 5, 3) := by decide +kernel
theorem dX10_init_4 : decode cX10_init 4 = .ok (.aload_n 0, 1) := by decide +kernel
theorem dX10_init_5 : decode cX10_init 5 = .ok (.new 11, 3) := by decide +kernel
theorem dX10_init_8 : decode cX10_init 8 = .ok (.dup, 1) := by decide +kernel
theorem dX10_init_9 : decode cX10_init 9 = .ok (.invokespecial 13, 3) := by decide +kernel
theorem dX10_init_12 : decode cX10_init 12 = .ok (.putfield 14, 3) := by decide +kernel
theorem dX10_init_15 : decode cX10_init 15 = .ok (.aload_n 0, 1) := by decide +kernel
theorem dX10_init_16 : decode cX10_init 16 = .ok (.new 11, 3) := by decide +kernel
theorem dX10_init_19 : decode cX10_init 19 = .ok (.dup, 1) := by decide +kernel
theorem dX10_init_20 : decode cX10_init 20 = .ok (.invokespecial 13, 3) := by decide +kernel
theorem dX10_init_23 : decode cX10_init 23 = .ok (.putfield 18, 3) := by decide +kernel
theorem dX10_init_26 : decode cX10_init 26 = .ok (.aload_n 0, 1) := by decide +kernel
theorem dX10_init_27 : decode cX10_init 27 = .ok (.new 11, 3) := by decide +kernel
theorem dX10_init_30 : decode cX10_init 30 = .ok (.dup, 1) := by decide +kernel
theorem dX10_init_31 : decode cX10_init 31 = .ok (.invokespecial 13, 3) := by decide +kernel
theorem dX10_init_34 : decode cX10_init 34 = .ok (.putfield 21, 3) := by decide +kernel
theorem dX10_init_37 : decode cX10_init 37 = .ok (.aload_n 0, 1) := by decide +kernel
theorem dX10_init_38 : decode cX10_init 38 = .ok (.new 24, 3) := by decide +kernel
theorem dX10_init_41 : decode cX10_init 41 = .ok (.dup, 1) := by decide +kernel
theorem dX10_init_42 : decode cX10_init 42 = .ok (.invokespecial 26, 3) := by decide +kernel
theorem dX10_init_45 : decode cX10_init 45 = .ok (.putfield 27, 3) := by decide +kernel
theorem dX10_init_48 : decode cX10_init 48 = .ok (.aload_n 0, 1) := by decide +kernel
theorem dX10_init_49 : decode cX10_init 49 = .ok (.new 24, 3) := by decide +kernel
theorem dX10_init_52 : decode cX10_init 52 = .ok (.dup, 1) := by decide +kernel
theorem dX10_init_53 : decode cX10_init 53 = .ok (.invokespecial 26, 3) := by decide +kernel
theorem dX10_init_56 : decode cX10_init 56 = .ok (.putfield 31, 3) := by decide +kernel
theorem dX10_init_59 : decode cX10_init 59 = .ok (.aload_n 0, 1) := by decide +kernel
theorem dX10_init_60 : decode cX10_init 60 = .ok (.new 34, 3) := by decide +kernel
theorem dX10_init_63 : decode cX10_init 63 = .ok (.dup, 1) := by decide +kernel
theorem dX10_init_64 : decode cX10_init 64 = .ok (.invokespecial 36, 3) := by decide +kernel
theorem dX10_init_67 : decode cX10_init 67 = .ok (.putfield 37, 3) := by decide +kernel
theorem dX10_init_70 : decode cX10_init 70 = .ok (.aload_n 0, 1) := by decide +kernel
theorem dX10_init_71 : decode cX10_init 71 = .ok (.new 41, 3) := by decide +kernel
theorem dX10_init_74 : decode cX10_init 74 = .ok (.dup, 1) := by decide +kernel
theorem dX10_init_75 : decode cX10_init 75 = .ok (.invokespecial 43, 3) := by decide +kernel
theorem dX10_init_78 : decode cX10_init 78 = .ok (.putfield 44, 3) := by decide +kernel
theorem dX10_init_81 : decode cX10_init 81 = .ok (.aload_n 0, 1) := by decide +kernel
theorem dX10_init_82 : decode cX10_init 82 = .ok (.new 48, 3) := by decide +kernel
theorem dX10_init_85 : decode cX10_init 85 = .ok (.dup, 1) := by decide +kernel
theorem dX10_init_86 : decode cX10_init 86 = .ok (.invokespecial 50, 3) := by decide +kernel
theorem dX10_init_89 : decode cX10_init 89 = .ok (.putfield 51, 3) := by decide +kernel
theorem dX10_init_92 : decode cX10_init 92 = .ok (.aload_n 0, 1) := by decide +kernel
theorem dX10_init_93 : decode cX10_init 93 = .ok (.new 55, 3) := by decide +kernel
theorem dX10_init_96 : decode cX10_init 96 = .ok (.dup, 1) := by decide +kernel
theorem dX10_init_97 : decode cX10_init 97 = .ok (.invokespecial 57, 3) := by decide +kernel
theorem dX10_init_100 : decode cX10_init 100 = .ok (.putfield 58, 3) := by decide +kernel
theorem dX10_init_103 : decode cX10_init 103 = .ok (.aload_n 0, 1) := by decide +kernel
theorem dX10_init_104 : decode cX10_init 104 = .ok (.new 62, 3) := by decide +kernel
theorem dX10_init_107 : decode cX10_init 107 = .ok (.dup, 1) := by decide +kernel
theorem dX10_init_108 : decode cX10_init 108 = .ok (.invokespecial 64, 3) := by decide +kernel
theorem dX10_init_111 : decode cX10_init 111 = .ok (.putfield 65, 3) := by decide +kernel
theorem dX10_init_114 : decode cX10_init 114 = .ok (.aload_n 0, 1) := by decide +kernel
theorem dX10_init_115 : decode cX10_init 115 = .ok (.iconst 4, 1) := by decide +kernel
theorem dX10_init_116 : decode cX10_init 116 = .ok (.anewarray 69, 3) := by decide +kernel
theorem dX10_init_119 : decode cX10_init 119 = .ok (.putfield 71, 3) := by decide +kernel
theorem dX10_init_122 : decode cX10_init 122 = .ok (.aload_n 0, 1) := by decide +kernel
theorem dX10_init_123 : decode cX10_init 123 = .ok (.iconst 3, 1) := by decide +kernel
theorem dX10_init_124 : decode cX10_init 124 = .ok (.anewarray 75, 3) := by decide +kernel
theorem dX10_init_127 : decode cX10_init 127 = .ok (.putfield 77, 3) := by decide +kernel
theorem dX10_init_130 : decode cX10_init 130 = .ok (.aload_n 0, 1) := by decide +kernel
theorem dX10_init_131 : decode cX10_init 131 = .ok (.bipush 7, 2) := by decide +kernel
theorem dX10_init_133 : decode cX10_init 133 = .ok (.newarray .int, 2) := by decide +kernel
theorem dX10_init_135 : decode cX10_init 135 = .ok (.putfield 81, 3) := by decide +kernel
theorem dX10_init_138 : decode cX10_init 138 = .ok (.iconst 0, 1) := by decide +kernel
theorem dX10_init_139 : decode cX10_init 139 = .ok (.istore_n 1, 1) := by decide +kernel
theorem dX10_init_140 : decode cX10_init 140 = .ok (.iload_n 1, 1) := by decide +kernel
theorem dX10_init_141 : decode cX10_init 141 = .ok (.iconst 4, 1) := by decide +kernel
theorem dX10_init_142 : decode cX10_init 142 = .ok (.if_icmp .ge 22, 3) := by decide +kernel
theorem dX10_init_145 : decode cX10_init 145 = .ok (.aload_n 0, 1) := by decide +kernel
theorem dX10_init_146 : decode cX10_init 146 = .ok (.getfield 71, 3) := by decide +kernel
theorem dX10_init_149 : decode cX10_init 149 = .ok (.iload_n 1, 1) := by decide +kernel
theorem dX10_init_150 : decode cX10_init 150 = .ok (.new 69, 3) := by decide +kernel
theorem dX10_init_153 : decode cX10_init 153 = .ok (.dup, 1) := by decide +kernel
theorem dX10_init_154 : decode cX10_init 154 = .ok (.invokespecial 85, 3) := by decide +kernel
theorem dX10_init_157 : decode cX10_init 157 = .ok (.aastore, 1) := by decide +kernel
theorem dX10_init_158 : decode cX10_init 158 = .ok (.iinc 1 1, 3) := by decide +kernel
theorem dX10_init_161 : decode cX10_init 161 = .ok (.goto (-21), 3) := by decide +kernel
theorem dX10_init_164 : decode cX10_init 164 = .ok (.iconst 0, 1) := by decide +kernel
theorem dX10_init_165 : decode cX10_init 165 = .ok (.istore_n 1, 1) := by decide +kernel
theorem dX10_init_166 : decode cX10_init 166 = .ok (.iload_n 1, 1) := by decide +kernel
theorem dX10_init_167 : decode cX10_init 167 = .ok (.iconst 3, 1) := by decide +kernel
theorem dX10_init_168 : decode cX10_init 168 = .ok (.if_icmp .ge 22, 3) := by decide +kernel
theorem dX10_init_171 : decode cX10_init 171 = .ok (.aload_n 0, 1) := by decide +kernel
theorem dX10_init_172 : decode cX10_init 172 = .ok (.getfield 77, 3) := by decide +kernel
theorem dX10_init_175 : decode cX10_init 175 = .ok (.iload_n 1, 1) := by decide +kernel
theorem dX10_init_176 : decode cX10_init 176 = .ok (.new 75, 3) := by decide +kernel
theorem dX10_init_179 : decode cX10_init 179 = .ok (.dup, 1) := by decide +kernel
theorem dX10_init_180 : decode cX10_init 180 = .ok (.invokespecial 86, 3) := by decide +kernel
theorem dX10_init_183 : decode cX10_init 183 = .ok (.aastore, 1) := by decide +kernel
theorem dX10_init_184 : decode cX10_init 184 = .ok (.iinc 1 1, 3) := by decide +kernel
theorem dX10_init_187 : decode cX10_init 187 = .ok (.goto (-21), 3) := by decide +kernel
theorem dX10_init_190 : decode cX10_init 190 = .ok (.return_, 1) := by decide +kernel
set_option maxRecDepth 20000 in
theorem ggX10_grave_X5_dig : GoodIn wsX10_grave wsX5_dig := goodIn_r _ [6, 7, 8, 9, 36, 37, 38, 39, 40] (by decide +kernel) (by decide +kernel)
set_option maxRecDepth 20000 in
theorem gX10_grave_X5_dig : GoodIn wsX10_grave (wsV RX10 87 RX5 yX5_dig wsX5_dig) := goodIn_app (goodIn_of _ (by decide +kernel)) ggX10_grave_X5_dig
set_option maxRecDepth 20000 in
theorem ggX10_grave_X10_siteChanged : GoodIn wsX10_grave wsX10_siteChanged := goodIn_r _ [14, 15, 16, 17, 18, 19, 20, 21, 22, 23, 24, 25, 26, 27, 28, 29, 30, 31, 32, 33, 34, 35] (by decide +kernel) (by decide +kernel)
set_option maxRecDepth 20000 in
theorem gX10_grave_X10_siteChanged : GoodIn wsX10_grave (wsV RX10 91 RX10 yX10_siteChanged wsX10_siteChanged) := goodIn_app (goodIn_of _ (by decide +kernel)) ggX10_grave_X10_siteChanged
theorem dX10_grave_0 : decode cX10_grave 0 = .ok (.iload_n 1, 1) := by decide +kernel
theorem dX10_grave_1 : decode cX10_grave 1 = .ok (.ifCond .lt 10, 3) := by decide +kernel
theorem dX10_grave_4 : decode cX10_grave 4 = .ok (.iload_n 1, 1) := by decide +kernel
theorem dX10_grave_5 : decode cX10_grave 5 = .ok (.sipush 999, 3) := by decide +kernel
theorem dX10_grave_8 : decode cX10_grave 8 = .ok (.if_icmp .le 6, 3) := by decide +kernel
theorem dX10_grave_11 : decode cX10_grave 11 = .ok (.bipush (-2), 2) := by decide +kernel
theorem dX10_grave_13 : decode cX10_grave 13 = .ok (.ireturn, 1) := by decide +kernel
theorem dX10_grave_14 : decode cX10_grave 14 = .ok (.aload_n 0, 1) := by decide +kernel
theorem dX10_grave_15 : decode cX10_grave 15 = .ok (.getfield 14, 3) := by decide +kernel
theorem dX10_grave_18 : decode cX10_grave 18 = .ok (.iload_n 1, 1) := by decide +kernel
theorem dX10_grave_19 : decode cX10_grave 19 = .ok (.invokevirtual 87, 3) := by decide +kernel
theorem dX10_grave_22 : decode cX10_grave 22 = .ok (.istore_n 2, 1) := by decide +kernel
theorem dX10_grave_23 : decode cX10_grave 23 = .ok (.iload_n 2, 1) := by decide +kernel
theorem dX10_grave_24 : decode cX10_grave 24 = .ok (.ifCond .ge 6, 3) := by decide +kernel
theorem dX10_grave_27 : decode cX10_grave 27 = .ok (.bipush (-4), 2) := by decide +kernel
theorem dX10_grave_29 : decode cX10_grave 29 = .ok (.ireturn, 1) := by decide +kernel
theorem dX10_grave_30 : decode cX10_grave 30 = .ok (.aload_n 0, 1) := by decide +kernel
theorem dX10_grave_31 : decode cX10_grave 31 = .ok (.invokevirtual 91, 3) := by decide +kernel
theorem dX10_grave_34 : decode cX10_grave 34 = .ok (.iload_n 2, 1) := by decide +kernel
theorem dX10_grave_35 : decode cX10_grave 35 = .ok (.ireturn, 1) := by decide +kernel
set_option maxRecDepth 20000 in
theorem ggX10_has_X5_holds : GoodIn wsX10_has wsX5_holds := goodIn_r _ [6, 7, 50, 51, 52, 53, 54] (by decide +kernel) (by decide +kernel)
set_option maxRecDepth 20000 in
theorem gX10_has_X5_holds : GoodIn wsX10_has (wsV RX10 94 RX5 yX5_holds wsX5_holds) := goodIn_app (goodIn_of _ (by decide +kernel)) ggX10_has_X5_holds
set_option maxRecDepth 20000 in
theorem ggX10_has_X5_knows : GoodIn wsX10_has wsX5_knows := goodIn_r _ [11, 12, 50, 51, 52, 53, 54] (by decide +kernel) (by decide +kernel)
set_option maxRecDepth 20000 in
theorem gX10_has_X5_knows : GoodIn wsX10_has (wsV RX10 98 RX5 yX5_knows wsX5_knows) := goodIn_app (goodIn_of _ (by decide +kernel)) ggX10_has_X5_knows
set_option maxRecDepth 20000 in
theorem ggX10_has_X5_owns : GoodIn wsX10_has wsX5_owns := goodIn_r _ [16, 17, 18, 3, 4, 5, 6, 7, 50, 51, 52, 53, 54] (by decide +kernel) (by decide +kernel)
set_option maxRecDepth 20000 in
theorem gX10_has_X5_owns : GoodIn wsX10_has (wsV RX10 101 RX5 yX5_owns wsX5_owns) := goodIn_app (goodIn_of _ (by decide +kernel)) ggX10_has_X5_owns
set_option maxRecDepth 20000 in
theorem ggX10_has_X5_mark : GoodIn wsX10_has wsX5_mark := goodIn_r _ [22, 17, 18, 3, 4, 5, 6, 7, 23, 9, 10, 11, 12, 50, 51, 52, 53, 54] (by decide +kernel) (by decide +kernel)
set_option maxRecDepth 20000 in
theorem gX10_has_X5_mark : GoodIn wsX10_has (wsV RX10 105 RX5 yX5_mark wsX5_mark) := goodIn_app (goodIn_of _ (by decide +kernel)) ggX10_has_X5_mark
set_option maxRecDepth 20000 in
theorem ggX10_has_X10_siteChanged : GoodIn wsX10_has wsX10_siteChanged := goodIn_r _ [28, 29, 30, 31, 32, 33, 34, 35, 36, 37, 38, 39, 40, 41, 42, 43, 44, 45, 46, 47, 48, 49] (by decide +kernel) (by decide +kernel)
set_option maxRecDepth 20000 in
theorem gX10_has_X10_siteChanged : GoodIn wsX10_has (wsV RX10 91 RX10 yX10_siteChanged wsX10_siteChanged) := goodIn_app (goodIn_of _ (by decide +kernel)) ggX10_has_X10_siteChanged
theorem dX10_has_0 : decode cX10_has 0 = .ok (.aload_n 0, 1) := by decide +kernel
theorem dX10_has_1 : decode cX10_has 1 = .ok (.getfield 14, 3) := by decide +kernel
theorem dX10_has_4 : decode cX10_has 4 = .ok (.iload_n 1, 1) := by decide +kernel
theorem dX10_has_5 : decode cX10_has 5 = .ok (.invokevirtual 94, 3) := by decide +kernel
theorem dX10_has_8 : decode cX10_has 8 = .ok (.ifCond .eq 14, 3) := by decide +kernel
theorem dX10_has_11 : decode cX10_has 11 = .ok (.aload_n 0, 1) := by decide +kernel
theorem dX10_has_12 : decode cX10_has 12 = .ok (.getfield 14, 3) := by decide +kernel
theorem dX10_has_15 : decode cX10_has 15 = .ok (.iload_n 2, 1) := by decide +kernel
theorem dX10_has_16 : decode cX10_has 16 = .ok (.invokevirtual 98, 3) := by decide +kernel
theorem dX10_has_19 : decode cX10_has 19 = .ok (.ifCond .ne 5, 3) := by decide +kernel
theorem dX10_has_22 : decode cX10_has 22 = .ok (.iconst (-1), 1) := by decide +kernel
theorem dX10_has_23 : decode cX10_has 23 = .ok (.ireturn, 1) := by decide +kernel
theorem dX10_has_24 : decode cX10_has 24 = .ok (.iload_n 3, 1) := by decide +kernel
theorem dX10_has_25 : decode cX10_has 25 = .ok (.ifCond .eq 11, 3) := by decide +kernel
theorem dX10_has_28 : decode cX10_has 28 = .ok (.iload_n 3, 1) := by decide +kernel
theorem dX10_has_29 : decode cX10_has 29 = .ok (.iconst 1, 1) := by decide +kernel
theorem dX10_has_30 : decode cX10_has 30 = .ok (.if_icmp .eq 6, 3) := by decide +kernel
theorem dX10_has_33 : decode cX10_has 33 = .ok (.bipush (-2), 2) := by decide +kernel
theorem dX10_has_35 : decode cX10_has 35 = .ok (.ireturn, 1) := by decide +kernel
theorem dX10_has_36 : decode cX10_has 36 = .ok (.aload_n 0, 1) := by decide +kernel
theorem dX10_has_37 : decode cX10_has 37 = .ok (.getfield 14, 3) := by decide +kernel
theorem dX10_has_40 : decode cX10_has 40 = .ok (.iload_n 1, 1) := by decide +kernel
theorem dX10_has_41 : decode cX10_has 41 = .ok (.iload_n 2, 1) := by decide +kernel
theorem dX10_has_42 : decode cX10_has 42 = .ok (.invokevirtual 101, 3) := by decide +kernel
theorem dX10_has_45 : decode cX10_has 45 = .ok (.ifCond .eq 7, 3) := by decide +kernel
theorem dX10_has_48 : decode cX10_has 48 = .ok (.iconst 1, 1) := by decide +kernel
theorem dX10_has_49 : decode cX10_has 49 = .ok (.goto 4, 3) := by decide +kernel
theorem dX10_has_52 : decode cX10_has 52 = .ok (.iconst 0, 1) := by decide +kernel
theorem dX10_has_53 : decode cX10_has 53 = .ok (.istore 4, 2) := by decide +kernel
theorem dX10_has_55 : decode cX10_has 55 = .ok (.aload_n 0, 1) := by decide +kernel
theorem dX10_has_56 : decode cX10_has 56 = .ok (.getfield 14, 3) := by decide +kernel
theorem dX10_has_59 : decode cX10_has 59 = .ok (.iload_n 1, 1) := by decide +kernel
theorem dX10_has_60 : decode cX10_has 60 = .ok (.iload_n 2, 1) := by decide +kernel
theorem dX10_has_61 : decode cX10_has 61 = .ok (.iload_n 3, 1) := by decide +kernel
theorem dX10_has_62 : decode cX10_has 62 = .ok (.iconst 1, 1) := by decide +kernel
theorem dX10_has_63 : decode cX10_has 63 = .ok (.if_icmp .ne 7, 3) := by decide +kernel
theorem dX10_has_66 : decode cX10_has 66 = .ok (.iconst 1, 1) := by decide +kernel
theorem dX10_has_67 : decode cX10_has 67 = .ok (.goto 4, 3) := by decide +kernel
theorem dX10_has_70 : decode cX10_has 70 = .ok (.iconst 0, 1) := by decide +kernel
theorem dX10_has_71 : decode cX10_has 71 = .ok (.invokevirtual 105, 3) := by decide +kernel
theorem dX10_has_74 : decode cX10_has 74 = .ok (.pop, 1) := by decide +kernel
theorem dX10_has_75 : decode cX10_has 75 = .ok (.aload_n 0, 1) := by decide +kernel
theorem dX10_has_76 : decode cX10_has 76 = .ok (.invokevirtual 91, 3) := by decide +kernel
theorem dX10_has_79 : decode cX10_has 79 = .ok (.iload 4, 2) := by decide +kernel
theorem dX10_has_81 : decode cX10_has 81 = .ok (.ireturn, 1) := by decide +kernel
set_option maxRecDepth 20000 in
theorem ggX10_of_X5_holds : GoodIn wsX10_of wsX5_holds := goodIn_r _ [8, 9, 50, 51, 52, 53, 54] (by decide +kernel) (by decide +kernel)
set_option maxRecDepth 20000 in
theorem gX10_of_X5_holds : GoodIn wsX10_of (wsV RX10 94 RX5 yX5_holds wsX5_holds) := goodIn_app (goodIn_of _ (by decide +kernel)) ggX10_of_X5_holds
set_option maxRecDepth 20000 in
theorem ggX10_of_X5_peers : GoodIn wsX10_of wsX5_peers := goodIn_r _ [13, 9, 14, 15, 50, 51, 52, 53, 54] (by decide +kernel) (by decide +kernel)
set_option maxRecDepth 20000 in
theorem gX10_of_X5_peers : GoodIn wsX10_of (wsV RX10 115 RX5 yX5_peers wsX5_peers) := goodIn_app (goodIn_of _ (by decide +kernel)) ggX10_of_X5_peers
set_option maxRecDepth 20000 in
theorem ggX10_of_X5_friends : GoodIn wsX10_of wsX5_friends := goodIn_r _ [19, 9, 20, 21, 22, 7, 23, 14, 24, 5, 6, 8, 25, 26, 27, 28, 29, 30, 31, 50, 51, 52, 53, 54] (by decide +kernel) (by decide +kernel)
set_option maxRecDepth 20000 in
theorem gX10_of_X5_friends : GoodIn wsX10_of (wsV RX10 118 RX5 yX5_friends wsX5_friends) := goodIn_app (goodIn_of _ (by decide +kernel)) ggX10_of_X5_friends
theorem dX10_of_0 : decode cX10_of 0 = .ok (.aload_n 0, 1) := by decide +kernel
theorem dX10_of_1 : decode cX10_of 1 = .ok (.getfield 14, 3) := by decide +kernel
theorem dX10_of_4 : decode cX10_of 4 = .ok (.iload_n 1, 1) := by decide +kernel
theorem dX10_of_5 : decode cX10_of 5 = .ok (.invokevirtual 94, 3) := by decide +kernel
theorem dX10_of_8 : decode cX10_of 8 = .ok (.ifCond .ne 5, 3) := by decide +kernel
theorem dX10_of_11 : decode cX10_of 11 = .ok (.iconst (-1), 1) := by decide +kernel
theorem dX10_of_12 : decode cX10_of 12 = .ok (.ireturn, 1) := by decide +kernel
theorem dX10_of_13 : decode cX10_of 13 = .ok (.iload_n 2, 1) := by decide +kernel
theorem dX10_of_14 : decode cX10_of 14 = .ok (.tableswitch 68 0 3 #[30, 40, 50, 59], 30) := by decide +kernel
theorem dX10_of_44 : decode cX10_of 44 = .ok (.aload_n 0, 1) := by decide +kernel
theorem dX10_of_45 : decode cX10_of 45 = .ok (.getfield 14, 3) := by decide +kernel
theorem dX10_of_48 : decode cX10_of 48 = .ok (.getfield 109, 3) := by decide +kernel
theorem dX10_of_51 : decode cX10_of 51 = .ok (.iload_n 1, 1) := by decide +kernel
theorem dX10_of_52 : decode cX10_of 52 = .ok (.iaload, 1) := by decide +kernel
theorem dX10_of_53 : decode cX10_of 53 = .ok (.ireturn, 1) := by decide +kernel
theorem dX10_of_54 : decode cX10_of 54 = .ok (.aload_n 0, 1) := by decide +kernel
theorem dX10_of_55 : decode cX10_of 55 = .ok (.getfield 14, 3) := by decide +kernel
theorem dX10_of_58 : decode cX10_of 58 = .ok (.getfield 112, 3) := by decide +kernel
theorem dX10_of_61 : decode cX10_of 61 = .ok (.iload_n 1, 1) := by decide +kernel
theorem dX10_of_62 : decode cX10_of 62 = .ok (.iaload, 1) := by decide +kernel
theorem dX10_of_63 : decode cX10_of 63 = .ok (.ireturn, 1) := by decide +kernel
theorem dX10_of_64 : decode cX10_of 64 = .ok (.aload_n 0, 1) := by decide +kernel
theorem dX10_of_65 : decode cX10_of 65 = .ok (.getfield 14, 3) := by decide +kernel
theorem dX10_of_68 : decode cX10_of 68 = .ok (.iload_n 1, 1) := by decide +kernel
theorem dX10_of_69 : decode cX10_of 69 = .ok (.invokevirtual 115, 3) := by decide +kernel
theorem dX10_of_72 : decode cX10_of 72 = .ok (.ireturn, 1) := by decide +kernel
theorem dX10_of_73 : decode cX10_of 73 = .ok (.aload_n 0, 1) := by decide +kernel
theorem dX10_of_74 : decode cX10_of 74 = .ok (.getfield 14, 3) := by decide +kernel
theorem dX10_of_77 : decode cX10_of 77 = .ok (.iload_n 1, 1) := by decide +kernel
theorem dX10_of_78 : decode cX10_of 78 = .ok (.invokevirtual 118, 3) := by decide +kernel
theorem dX10_of_81 : decode cX10_of 81 = .ok (.ireturn, 1) := by decide +kernel
theorem dX10_of_82 : decode cX10_of 82 = .ok (.iconst (-1), 1) := by decide +kernel
theorem dX10_of_83 : decode cX10_of 83 = .ok (.ireturn, 1) := by decide +kernel
set_option maxRecDepth 20000 in
theorem ggX10_type_X5_knows : GoodIn wsX10_type wsX5_knows := goodIn_r _ [7, 8, 50, 51, 52, 53, 54] (by decide +kernel) (by decide +kernel)
set_option maxRecDepth 20000 in
theorem gX10_type_X5_knows : GoodIn wsX10_type (wsV RX10 98 RX5 yX5_knows wsX5_knows) := goodIn_app (goodIn_of _ (by decide +kernel)) ggX10_type_X5_knows
set_option maxRecDepth 20000 in
theorem ggX10_type_X5_owners : GoodIn wsX10_type wsX5_owners := goodIn_r _ [12, 13, 14, 15, 16, 6, 17, 18, 19, 20, 21, 22, 50, 51, 52, 53, 54] (by decide +kernel) (by decide +kernel)
set_option maxRecDepth 20000 in
theorem gX10_type_X5_owners : GoodIn wsX10_type (wsV RX10 121 RX5 yX5_owners wsX5_owners) := goodIn_app (goodIn_of _ (by decide +kernel)) ggX10_type_X5_owners
set_option maxRecDepth 20000 in
theorem ggX10_type_X2_length : GoodIn wsX10_type wsX2_length := goodIn_r _ [26, 27, 28, 25, 29, 30] (by decide +kernel) (by decide +kernel)
set_option maxRecDepth 20000 in
theorem gX10_type_X2_length : GoodIn wsX10_type (va_wsS RX10 127 yX2_length wsX2_length) := goodIn_app (goodIn_of _ (by decide +kernel)) ggX10_type_X2_length
set_option maxRecDepth 20000 in
theorem ggX10_type_X2_letter : GoodIn wsX10_type wsX2_letter := goodIn_r _ [29, 30] (by decide +kernel) (by decide +kernel)
set_option maxRecDepth 20000 in
theorem gX10_type_X2_letter : GoodIn wsX10_type (va_wsS RX10 132 yX2_letter wsX2_letter) := goodIn_app (goodIn_of _ (by decide +kernel)) ggX10_type_X2_letter
theorem dX10_type_0 : decode cX10_type 0 = .ok (.aload_n 0, 1) := by decide +kernel
theorem dX10_type_1 : decode cX10_type 1 = .ok (.getfield 14, 3) := by decide +kernel
theorem dX10_type_4 : decode cX10_type 4 = .ok (.iload_n 1, 1) := by decide +kernel
theorem dX10_type_5 : decode cX10_type 5 = .ok (.invokevirtual 98, 3) := by decide +kernel
theorem dX10_type_8 : decode cX10_type 8 = .ok (.ifCond .eq 13, 3) := by decide +kernel
theorem dX10_type_11 : decode cX10_type 11 = .ok (.iload_n 2, 1) := by decide +kernel
theorem dX10_type_12 : decode cX10_type 12 = .ok (.ifCond .lt 9, 3) := by decide +kernel
theorem dX10_type_15 : decode cX10_type 15 = .ok (.iload_n 2, 1) := by decide +kernel
theorem dX10_type_16 : decode cX10_type 16 = .ok (.bipush 7, 2) := by decide +kernel
theorem dX10_type_18 : decode cX10_type 18 = .ok (.if_icmp .le 5, 3) := by decide +kernel
theorem dX10_type_21 : decode cX10_type 21 = .ok (.iconst (-1), 1) := by decide +kernel
theorem dX10_type_22 : decode cX10_type 22 = .ok (.ireturn, 1) := by decide +kernel
theorem dX10_type_23 : decode cX10_type 23 = .ok (.iload_n 2, 1) := by decide +kernel
theorem dX10_type_24 : decode cX10_type 24 = .ok (.ifCond .ne 12, 3) := by decide +kernel
theorem dX10_type_27 : decode cX10_type 27 = .ok (.aload_n 0, 1) := by decide +kernel
theorem dX10_type_28 : decode cX10_type 28 = .ok (.getfield 14, 3) := by decide +kernel
theorem dX10_type_31 : decode cX10_type 31 = .ok (.iload_n 1, 1) := by decide +kernel
theorem dX10_type_32 : decode cX10_type 32 = .ok (.invokevirtual 121, 3) := by decide +kernel
theorem dX10_type_35 : decode cX10_type 35 = .ok (.ireturn, 1) := by decide +kernel
theorem dX10_type_36 : decode cX10_type 36 = .ok (.aload_n 0, 1) := by decide +kernel
theorem dX10_type_37 : decode cX10_type 37 = .ok (.getfield 14, 3) := by decide +kernel
theorem dX10_type_40 : decode cX10_type 40 = .ok (.getfield 124, 3) := by decide +kernel
theorem dX10_type_43 : decode cX10_type 43 = .ok (.iload_n 1, 1) := by decide +kernel
theorem dX10_type_44 : decode cX10_type 44 = .ok (.iaload, 1) := by decide +kernel
theorem dX10_type_45 : decode cX10_type 45 = .ok (.istore_n 3, 1) := by decide +kernel
theorem dX10_type_46 : decode cX10_type 46 = .ok (.iload_n 2, 1) := by decide +kernel
theorem dX10_type_47 : decode cX10_type 47 = .ok (.iconst 1, 1) := by decide +kernel
theorem dX10_type_48 : decode cX10_type 48 = .ok (.if_icmp .ne 10, 3) := by decide +kernel
theorem dX10_type_51 : decode cX10_type 51 = .ok (.iload_n 3, 1) := by decide +kernel
theorem dX10_type_52 : decode cX10_type 52 = .ok (.invokestatic 127, 3) := by decide +kernel
theorem dX10_type_55 : decode cX10_type 55 = .ok (.goto 10, 3) := by decide +kernel
theorem dX10_type_58 : decode cX10_type 58 = .ok (.iload_n 3, 1) := by decide +kernel
theorem dX10_type_59 : decode cX10_type 59 = .ok (.iload_n 2, 1) := by decide +kernel
theorem dX10_type_60 : decode cX10_type 60 = .ok (.iconst 2, 1) := by decide +kernel
theorem dX10_type_61 : decode cX10_type 61 = .ok (.isub, 1) := by decide +kernel
theorem dX10_type_62 : decode cX10_type 62 = .ok (.invokestatic 132, 3) := by decide +kernel
theorem dX10_type_65 : decode cX10_type 65 = .ok (.ireturn, 1) := by decide +kernel
set_option maxRecDepth 20000 in
theorem ggX10_drop_X5_holds : GoodIn wsX10_drop wsX5_holds := goodIn_r _ [7, 8, 41, 42, 43, 44, 45] (by decide +kernel) (by decide +kernel)
set_option maxRecDepth 20000 in
theorem gX10_drop_X5_holds : GoodIn wsX10_drop (wsV RX10 94 RX5 yX5_holds wsX5_holds) := goodIn_app (goodIn_of _ (by decide +kernel)) ggX10_drop_X5_holds
set_option maxRecDepth 20000 in
theorem ggX10_drop_X5_remove : GoodIn wsX10_drop wsX5_remove := goodIn_r _ [12, 8, 13, 14, 41, 42, 43, 44, 45] (by decide +kernel) (by decide +kernel)
set_option maxRecDepth 20000 in
theorem gX10_drop_X5_remove : GoodIn wsX10_drop (wsV RX10 136 RX5 yX5_remove wsX5_remove) := goodIn_app (goodIn_of _ (by decide +kernel)) ggX10_drop_X5_remove
set_option maxRecDepth 20000 in
theorem ggX10_drop_X10_siteChanged : GoodIn wsX10_drop wsX10_siteChanged := goodIn_r _ [19, 20, 21, 22, 23, 24, 25, 26, 27, 28, 29, 30, 31, 32, 33, 34, 35, 36, 37, 38, 39, 40] (by decide +kernel) (by decide +kernel)
set_option maxRecDepth 20000 in
theorem gX10_drop_X10_siteChanged : GoodIn wsX10_drop (wsV RX10 91 RX10 yX10_siteChanged wsX10_siteChanged) := goodIn_app (goodIn_of _ (by decide +kernel)) ggX10_drop_X10_siteChanged
theorem dX10_drop_0 : decode cX10_drop 0 = .ok (.aload_n 0, 1) := by decide +kernel
theorem dX10_drop_1 : decode cX10_drop 1 = .ok (.getfield 14, 3) := by decide +kernel
theorem dX10_drop_4 : decode cX10_drop 4 = .ok (.iload_n 1, 1) := by decide +kernel
theorem dX10_drop_5 : decode cX10_drop 5 = .ok (.invokevirtual 94, 3) := by decide +kernel
theorem dX10_drop_8 : decode cX10_drop 8 = .ok (.ifCond .ne 5, 3) := by decide +kernel
theorem dX10_drop_11 : decode cX10_drop 11 = .ok (.iconst (-1), 1) := by decide +kernel
theorem dX10_drop_12 : decode cX10_drop 12 = .ok (.ireturn, 1) := by decide +kernel
theorem dX10_drop_13 : decode cX10_drop 13 = .ok (.aload_n 0, 1) := by decide +kernel
theorem dX10_drop_14 : decode cX10_drop 14 = .ok (.getfield 14, 3) := by decide +kernel
theorem dX10_drop_17 : decode cX10_drop 17 = .ok (.iload_n 1, 1) := by decide +kernel
theorem dX10_drop_18 : decode cX10_drop 18 = .ok (.invokevirtual 136, 3) := by decide +kernel
theorem dX10_drop_21 : decode cX10_drop 21 = .ok (.aload_n 0, 1) := by decide +kernel
theorem dX10_drop_22 : decode cX10_drop 22 = .ok (.invokevirtual 91, 3) := by decide +kernel
theorem dX10_drop_25 : decode cX10_drop 25 = .ok (.aload_n 0, 1) := by decide +kernel
theorem dX10_drop_26 : decode cX10_drop 26 = .ok (.getfield 14, 3) := by decide +kernel
theorem dX10_drop_29 : decode cX10_drop 29 = .ok (.getfield 140, 3) := by decide +kernel
theorem dX10_drop_32 : decode cX10_drop 32 = .ok (.ireturn, 1) := by decide +kernel
set_option maxRecDepth 20000 in
theorem ggX10_count_X5_parts : GoodIn wsX10_count wsX5_parts := goodIn_r _ [11, 12, 13, 14, 15, 10, 16, 17, 18, 19, 20, 21, 22, 23, 24, 25, 26, 27, 28, 29, 30, 31, 32, 33, 34, 35, 36, 59, 60, 61, 62, 63] (by decide +kernel) (by decide +kernel)
set_option maxRecDepth 20000 in
theorem gX10_count_X5_parts : GoodIn wsX10_count (wsV RX10 147 RX5 yX5_parts wsX5_parts) := goodIn_app (goodIn_of _ (by decide +kernel)) ggX10_count_X5_parts
set_option maxRecDepth 20000 in
theorem ggX10_count_X5_bare : GoodIn wsX10_count wsX5_bare := goodIn_r _ [40, 12, 25, 59, 60, 61, 62, 63] (by decide +kernel) (by decide +kernel)
set_option maxRecDepth 20000 in
theorem gX10_count_X5_bare : GoodIn wsX10_count (wsV RX10 157 RX5 yX5_bare wsX5_bare) := goodIn_app (goodIn_of _ (by decide +kernel)) ggX10_count_X5_bare
theorem dX10_count_0 : decode cX10_count 0 = .ok (.iload_n 1, 1) := by decide +kernel
theorem dX10_count_1 : decode cX10_count 1 = .ok (.tableswitch 84 0 5 #[39, 47, 55, 63, 71, 76], 39) := by decide +kernel
theorem dX10_count_40 : decode cX10_count 40 = .ok (.aload_n 0, 1) := by decide +kernel
theorem dX10_count_41 : decode cX10_count 41 = .ok (.getfield 14, 3) := by decide +kernel
theorem dX10_count_44 : decode cX10_count 44 = .ok (.getfield 140, 3) := by decide +kernel
theorem dX10_count_47 : decode cX10_count 47 = .ok (.ireturn, 1) := by decide +kernel
theorem dX10_count_48 : decode cX10_count 48 = .ok (.aload_n 0, 1) := by decide +kernel
theorem dX10_count_49 : decode cX10_count 49 = .ok (.getfield 14, 3) := by decide +kernel
theorem dX10_count_52 : decode cX10_count 52 = .ok (.getfield 144, 3) := by decide +kernel
theorem dX10_count_55 : decode cX10_count 55 = .ok (.ireturn, 1) := by decide +kernel
theorem dX10_count_56 : decode cX10_count 56 = .ok (.aload_n 0, 1) := by decide +kernel
theorem dX10_count_57 : decode cX10_count 57 = .ok (.getfield 14, 3) := by decide +kernel
theorem dX10_count_60 : decode cX10_count 60 = .ok (.invokevirtual 147, 3) := by decide +kernel
theorem dX10_count_63 : decode cX10_count 63 = .ok (.ireturn, 1) := by decide +kernel
theorem dX10_count_64 : decode cX10_count 64 = .ok (.aload_n 0, 1) := by decide +kernel
theorem dX10_count_65 : decode cX10_count 65 = .ok (.getfield 58, 3) := by decide +kernel
theorem dX10_count_68 : decode cX10_count 68 = .ok (.getfield 151, 3) := by decide +kernel
theorem dX10_count_71 : decode cX10_count 71 = .ok (.ireturn, 1) := by decide +kernel
theorem dX10_count_72 : decode cX10_count 72 = .ok (.aload_n 0, 1) := by decide +kernel
theorem dX10_count_73 : decode cX10_count 73 = .ok (.getfield 154, 3) := by decide +kernel
theorem dX10_count_76 : decode cX10_count 76 = .ok (.ireturn, 1) := by decide +kernel
theorem dX10_count_77 : decode cX10_count 77 = .ok (.aload_n 0, 1) := by decide +kernel
theorem dX10_count_78 : decode cX10_count 78 = .ok (.getfield 14, 3) := by decide +kernel
theorem dX10_count_81 : decode cX10_count 81 = .ok (.invokevirtual 157, 3) := by decide +kernel
theorem dX10_count_84 : decode cX10_count 84 = .ok (.ireturn, 1) := by decide +kernel
theorem dX10_count_85 : decode cX10_count 85 = .ok (.bipush (-2), 2) := by decide +kernel
theorem dX10_count_87 : decode cX10_count 87 = .ok (.ireturn, 1) := by decide +kernel
set_option maxRecDepth 20000 in
theorem ggX10_orders_X10_readyPlan : GoodIn wsX10_orders wsX10_readyPlan := goodIn_r _ [6, 7, 8, 9, 10, 11, 12, 13, 14, 15, 16, 17, 18, 19, 20, 21, 22, 23, 24, 25, 26, 27, 28, 29, 30, 31, 32, 33, 34, 35, 36, 37, 38, 39, 40, 41, 42, 43, 44, 45, 46, 47, 48, 49, 50, 51, 52, 53, 54, 55, 56, 57, 58, 59, 60, 74, 75, 76, 77, 78, 79, 80, 81, 82, 83, 84, 85, 86, 87, 88, 89, 90, 91, 92, 93, 94, 95, 96, 97, 98, 99, 100, 101, 102, 103] (by decide +kernel) (by decide +kernel)
set_option maxRecDepth 20000 in
theorem gX10_orders_X10_readyPlan : GoodIn wsX10_orders (wsV RX10 160 RX10 yX10_readyPlan wsX10_readyPlan) := goodIn_app (goodIn_of _ (by decide +kernel)) ggX10_orders_X10_readyPlan
set_option maxRecDepth 20000 in
theorem ggX10_orders_X6_within : GoodIn wsX10_orders wsX6_within := goodIn_r _ [65, 66, 67, 68, 69, 70, 64, 71, 72, 48, 49, 24, 50, 26, 27, 28, 73, 52, 53, 54, 31, 29, 55, 56, 38, 57, 58, 59, 60, 97, 98, 99, 100, 101, 102, 103, 104] (by decide +kernel) (by decide +kernel)
set_option maxRecDepth 20000 in
theorem gX10_orders_X6_within : GoodIn wsX10_orders (wsV RX10 164 RX6 yX6_within wsX6_within) := goodIn_app (goodIn_of _ (by decide +kernel)) ggX10_orders_X6_within
theorem dX10_orders_0 : decode cX10_orders 0 = .ok (.iload_n 1, 1) := by decide +kernel
theorem dX10_orders_1 : decode cX10_orders 1 = .ok (.ifCond .lt 9, 3) := by decide +kernel
theorem dX10_orders_4 : decode cX10_orders 4 = .ok (.iload_n 1, 1) := by decide +kernel
theorem dX10_orders_5 : decode cX10_orders 5 = .ok (.bipush 60, 2) := by decide +kernel
theorem dX10_orders_7 : decode cX10_orders 7 = .ok (.if_icmp .le 6, 3) := by decide +kernel
theorem dX10_orders_10 : decode cX10_orders 10 = .ok (.bipush (-2), 2) := by decide +kernel
theorem dX10_orders_12 : decode cX10_orders 12 = .ok (.ireturn, 1) := by decide +kernel
theorem dX10_orders_13 : decode cX10_orders 13 = .ok (.aload_n 0, 1) := by decide +kernel
theorem dX10_orders_14 : decode cX10_orders 14 = .ok (.getfield 37, 3) := by decide +kernel
theorem dX10_orders_17 : decode cX10_orders 17 = .ok (.aload_n 0, 1) := by decide +kernel
theorem dX10_orders_18 : decode cX10_orders 18 = .ok (.invokevirtual 160, 3) := by decide +kernel
theorem dX10_orders_21 : decode cX10_orders 21 = .ok (.iload_n 1, 1) := by decide +kernel
theorem dX10_orders_22 : decode cX10_orders 22 = .ok (.invokevirtual 164, 3) := by decide +kernel
theorem dX10_orders_25 : decode cX10_orders 25 = .ok (.ireturn, 1) := by decide +kernel
set_option maxRecDepth 20000 in
theorem ggX10_gapless_X10_readyPlan : GoodIn wsX10_gapless wsX10_readyPlan := goodIn_r _ [5, 6, 7, 8, 9, 10, 11, 12, 13, 14, 15, 16, 17, 18, 19, 20, 21, 22, 23, 24, 25, 26, 27, 28, 29, 30, 31, 32, 33, 34, 35, 36, 37, 38, 39, 40, 41, 42, 43, 44, 45, 46, 47, 48, 49, 50, 51, 52, 53, 54, 55, 56, 57, 58, 59, 72, 73, 74, 75, 76, 77, 78, 79, 80, 81, 82, 83, 84, 85, 86, 87, 88, 89, 90, 91, 92, 93, 94, 95, 96, 97, 98, 99, 100, 101] (by decide +kernel) (by decide +kernel)
set_option maxRecDepth 20000 in
theorem gX10_gapless_X10_readyPlan : GoodIn wsX10_gapless (wsV RX10 160 RX10 yX10_readyPlan wsX10_readyPlan) := goodIn_app (goodIn_of _ (by decide +kernel)) ggX10_gapless_X10_readyPlan
set_option maxRecDepth 20000 in
theorem ggX10_gapless_X3_smoothOrders : GoodIn wsX10_gapless wsX3_smoothOrders := goodIn_r _ [63, 44, 45, 95, 96, 97, 98, 99, 100, 101] (by decide +kernel) (by decide +kernel)
set_option maxRecDepth 20000 in
theorem gX10_gapless_X3_smoothOrders : GoodIn wsX10_gapless (wsV RX10 168 RX3 yX3_smoothOrders wsX3_smoothOrders) := goodIn_app (goodIn_of _ (by decide +kernel)) ggX10_gapless_X3_smoothOrders
set_option maxRecDepth 20000 in
theorem ggX10_gapless_X3_pick : GoodIn wsX10_gapless wsX3_pick := goodIn_r _ [67, 25, 45, 54, 55, 37, 56, 57, 58, 59, 68, 69, 70, 23, 71, 44, 46, 47, 48, 49, 26, 27, 50, 51, 52, 53, 30, 28, 95, 96, 97, 98, 99, 100, 101] (by decide +kernel) (by decide +kernel)
set_option maxRecDepth 20000 in
theorem gX10_gapless_X3_pick : GoodIn wsX10_gapless (wsV RX10 171 RX3 yX3_pick wsX3_pick) := goodIn_app (goodIn_of _ (by decide +kernel)) ggX10_gapless_X3_pick
theorem dX10_gapless_0 : decode cX10_gapless 0 = .ok (.aload_n 0, 1) := by decide +kernel
theorem dX10_gapless_1 : decode cX10_gapless 1 = .ok (.invokevirtual 160, 3) := by decide +kernel
theorem dX10_gapless_4 : decode cX10_gapless 4 = .ok (.astore_n 2, 1) := by decide +kernel
theorem dX10_gapless_5 : decode cX10_gapless 5 = .ok (.iload_n 1, 1) := by decide +kernel
theorem dX10_gapless_6 : decode cX10_gapless 6 = .ok (.ifCond .lt 11, 3) := by decide +kernel
theorem dX10_gapless_9 : decode cX10_gapless 9 = .ok (.iload_n 1, 1) := by decide +kernel
theorem dX10_gapless_10 : decode cX10_gapless 10 = .ok (.aload_n 2, 1) := by decide +kernel
theorem dX10_gapless_11 : decode cX10_gapless 11 = .ok (.invokevirtual 168, 3) := by decide +kernel
theorem dX10_gapless_14 : decode cX10_gapless 14 = .ok (.if_icmp .lt 7, 3) := by decide +kernel
theorem dX10_gapless_17 : decode cX10_gapless 17 = .ok (.iconst (-1), 1) := by decide +kernel
theorem dX10_gapless_18 : decode cX10_gapless 18 = .ok (.goto 8, 3) := by decide +kernel
theorem dX10_gapless_21 : decode cX10_gapless 21 = .ok (.aload_n 2, 1) := by decide +kernel
theorem dX10_gapless_22 : decode cX10_gapless 22 = .ok (.iload_n 1, 1) := by decide +kernel
theorem dX10_gapless_23 : decode cX10_gapless 23 = .ok (.invokevirtual 171, 3) := by decide +kernel
theorem dX10_gapless_26 : decode cX10_gapless 26 = .ok (.ireturn, 1) := by decide +kernel
set_option maxRecDepth 20000 in
theorem ggX10_fewest_X10_readyPlan : GoodIn wsX10_fewest wsX10_readyPlan := goodIn_r _ [6, 7, 8, 9, 10, 11, 12, 13, 14, 15, 16, 17, 18, 19, 20, 21, 22, 23, 24, 25, 26, 27, 28, 29, 30, 31, 32, 33, 34, 35, 36, 37, 38, 39, 40, 41, 42, 43, 44, 45, 46, 47, 48, 49, 50, 51, 52, 53, 54, 55, 56, 57, 58, 59, 60, 80, 81, 82, 83, 84, 85, 86, 87, 88, 89, 90, 91, 92, 93, 94, 95, 96, 97, 98, 99, 100, 101, 102, 73, 74, 75, 76, 77, 78, 79] (by decide +kernel) (by decide +kernel)
set_option maxRecDepth 20000 in
theorem gX10_fewest_X10_readyPlan : GoodIn wsX10_fewest (wsV RX10 160 RX10 yX10_readyPlan wsX10_readyPlan) := goodIn_app (goodIn_of _ (by decide +kernel)) ggX10_fewest_X10_readyPlan
set_option maxRecDepth 20000 in
theorem ggX10_fewest_X3_least : GoodIn wsX10_fewest wsX3_least := goodIn_r _ [64, 45, 73, 74, 75, 76, 77, 78, 79] (by decide +kernel) (by decide +kernel)
set_option maxRecDepth 20000 in
theorem gX10_fewest_X3_least : GoodIn wsX10_fewest (wsV RX10 174 RX3 yX3_least wsX3_least) := goodIn_app (goodIn_of _ (by decide +kernel)) ggX10_fewest_X3_least
set_option maxRecDepth 20000 in
theorem ggX10_fewest_X3_pick : GoodIn wsX10_fewest wsX3_pick := goodIn_r _ [68, 26, 46, 55, 56, 38, 57, 58, 59, 60, 69, 70, 71, 24, 72, 45, 47, 48, 49, 50, 27, 28, 51, 52, 53, 54, 31, 29, 73, 74, 75, 76, 77, 78, 79] (by decide +kernel) (by decide +kernel)
set_option maxRecDepth 20000 in
theorem gX10_fewest_X3_pick : GoodIn wsX10_fewest (wsV RX10 171 RX3 yX3_pick wsX3_pick) := goodIn_app (goodIn_of _ (by decide +kernel)) ggX10_fewest_X3_pick
theorem dX10_fewest_0 : decode cX10_fewest 0 = .ok (.iload_n 1, 1) := by decide +kernel
theorem dX10_fewest_1 : decode cX10_fewest 1 = .ok (.ifCond .lt 8, 3) := by decide +kernel
theorem dX10_fewest_4 : decode cX10_fewest 4 = .ok (.iload_n 1, 1) := by decide +kernel
theorem dX10_fewest_5 : decode cX10_fewest 5 = .ok (.iconst 2, 1) := by decide +kernel
theorem dX10_fewest_6 : decode cX10_fewest 6 = .ok (.if_icmp .le 6, 3) := by decide +kernel
theorem dX10_fewest_9 : decode cX10_fewest 9 = .ok (.bipush (-2), 2) := by decide +kernel
theorem dX10_fewest_11 : decode cX10_fewest 11 = .ok (.ireturn, 1) := by decide +kernel
theorem dX10_fewest_12 : decode cX10_fewest 12 = .ok (.aload_n 0, 1) := by decide +kernel
theorem dX10_fewest_13 : decode cX10_fewest 13 = .ok (.invokevirtual 160, 3) := by decide +kernel
theorem dX10_fewest_16 : decode cX10_fewest 16 = .ok (.astore_n 2, 1) := by decide +kernel
theorem dX10_fewest_17 : decode cX10_fewest 17 = .ok (.iload_n 1, 1) := by decide +kernel
theorem dX10_fewest_18 : decode cX10_fewest 18 = .ok (.lookupswitch 38 #[(0, 26), (1, 31)], 26) := by decide +kernel
theorem dX10_fewest_44 : decode cX10_fewest 44 = .ok (.aload_n 2, 1) := by decide +kernel
theorem dX10_fewest_45 : decode cX10_fewest 45 = .ok (.invokevirtual 174, 3) := by decide +kernel
theorem dX10_fewest_48 : decode cX10_fewest 48 = .ok (.ireturn, 1) := by decide +kernel
theorem dX10_fewest_49 : decode cX10_fewest 49 = .ok (.aload_n 2, 1) := by decide +kernel
theorem dX10_fewest_50 : decode cX10_fewest 50 = .ok (.getfield 177, 3) := by decide +kernel
theorem dX10_fewest_53 : decode cX10_fewest 53 = .ok (.iconst 0, 1) := by decide +kernel
theorem dX10_fewest_54 : decode cX10_fewest 54 = .ok (.iaload, 1) := by decide +kernel
theorem dX10_fewest_55 : decode cX10_fewest 55 = .ok (.ireturn, 1) := by decide +kernel
theorem dX10_fewest_56 : decode cX10_fewest 56 = .ok (.aload_n 2, 1) := by decide +kernel
theorem dX10_fewest_57 : decode cX10_fewest 57 = .ok (.iconst 0, 1) := by decide +kernel
theorem dX10_fewest_58 : decode cX10_fewest 58 = .ok (.invokevirtual 171, 3) := by decide +kernel
theorem dX10_fewest_61 : decode cX10_fewest 61 = .ok (.ireturn, 1) := by decide +kernel
set_option maxRecDepth 20000 in
theorem ggX10_ends_X5_holds : GoodIn wsX10_ends wsX5_holds := goodIn_r _ [8, 9, 90, 91, 92, 93, 94] (by decide +kernel) (by decide +kernel)
set_option maxRecDepth 20000 in
theorem gX10_ends_X5_holds : GoodIn wsX10_ends (wsV RX10 94 RX5 yX5_holds wsX5_holds) := goodIn_app (goodIn_of _ (by decide +kernel)) ggX10_ends_X5_holds
set_option maxRecDepth 20000 in
theorem ggX10_ends_X5_everybody : GoodIn wsX10_ends wsX5_everybody := goodIn_r _ [13, 9, 90, 91, 92, 93, 94] (by decide +kernel) (by decide +kernel)
set_option maxRecDepth 20000 in
theorem gX10_ends_X5_everybody : GoodIn wsX10_ends (wsV RX10 180 RX5 yX5_everybody wsX5_everybody) := goodIn_app (goodIn_of _ (by decide +kernel)) ggX10_ends_X5_everybody
set_option maxRecDepth 20000 in
theorem ggX10_ends_X5_everything : GoodIn wsX10_ends wsX5_everything := goodIn_r _ [17, 18, 90, 91, 92, 93, 94] (by decide +kernel) (by decide +kernel)
set_option maxRecDepth 20000 in
theorem gX10_ends_X5_everything : GoodIn wsX10_ends (wsV RX10 183 RX5 yX5_everything wsX5_everything) := goodIn_app (goodIn_of _ (by decide +kernel)) ggX10_ends_X5_everything
set_option maxRecDepth 20000 in
theorem ggX10_ends_X3_make : GoodIn wsX10_ends wsX3_make := goodIn_r _ [23, 24, 25, 26, 27, 28, 29, 30, 5, 6, 7, 8, 9, 31, 32, 33, 34, 35, 36, 37, 38, 22, 39, 40, 41, 42, 43, 44, 45, 46, 47, 48, 49, 50, 51, 52, 53, 54, 55, 95, 96, 97, 98, 99, 100, 101, 90, 91, 92, 93, 94] (by decide +kernel) (by decide +kernel)
set_option maxRecDepth 20000 in
theorem gX10_ends_X3_make : GoodIn wsX10_ends (wsV RX10 186 RX3 yX3_make wsX3_make) := goodIn_app (goodIn_of _ (by decide +kernel)) ggX10_ends_X3_make
set_option maxRecDepth 20000 in
theorem ggX10_ends_X3_smoothOrders : GoodIn wsX10_ends wsX3_smoothOrders := goodIn_r _ [59, 40, 41, 95, 96, 97, 98, 99, 100, 101] (by decide +kernel) (by decide +kernel)
set_option maxRecDepth 20000 in
theorem gX10_ends_X3_smoothOrders : GoodIn wsX10_ends (wsV RX10 168 RX3 yX3_smoothOrders wsX3_smoothOrders) := goodIn_app (goodIn_of _ (by decide +kernel)) ggX10_ends_X3_smoothOrders
set_option maxRecDepth 20000 in
theorem ggX10_ends_X3_least : GoodIn wsX10_ends wsX3_least := goodIn_r _ [63, 40, 95, 96, 97, 98, 99, 100, 101] (by decide +kernel) (by decide +kernel)
set_option maxRecDepth 20000 in
theorem gX10_ends_X3_least : GoodIn wsX10_ends (wsV RX10 174 RX3 yX3_least wsX3_least) := goodIn_app (goodIn_of _ (by decide +kernel)) ggX10_ends_X3_least
set_option maxRecDepth 20000 in
theorem ggX10_ends_X3_pick : GoodIn wsX10_ends wsX3_pick := goodIn_r _ [67, 24, 41, 50, 51, 33, 52, 53, 54, 55, 68, 69, 70, 22, 71, 40, 42, 43, 44, 45, 25, 26, 46, 47, 48, 49, 29, 27, 95, 96, 97, 98, 99, 100, 101] (by decide +kernel) (by decide +kernel)
set_option maxRecDepth 20000 in
theorem gX10_ends_X3_pick : GoodIn wsX10_ends (wsV RX10 171 RX3 yX3_pick wsX3_pick) := goodIn_app (goodIn_of _ (by decide +kernel)) ggX10_ends_X3_pick
theorem dX10_ends_0 : decode cX10_ends 0 = .ok (.aload_n 0, 1) := by decide +kernel
theorem dX10_ends_1 : decode cX10_ends 1 = .ok (.getfield 14, 3) := by decide +kernel
theorem dX10_ends_4 : decode cX10_ends 4 = .ok (.iload_n 1, 1) := by decide +kernel
theorem dX10_ends_5 : decode cX10_ends 5 = .ok (.invokevirtual 94, 3) := by decide +kernel
theorem dX10_ends_8 : decode cX10_ends 8 = .ok (.ifCond .eq 14, 3) := by decide +kernel
theorem dX10_ends_11 : decode cX10_ends 11 = .ok (.aload_n 0, 1) := by decide +kernel
theorem dX10_ends_12 : decode cX10_ends 12 = .ok (.getfield 14, 3) := by decide +kernel
theorem dX10_ends_15 : decode cX10_ends 15 = .ok (.iload_n 2, 1) := by decide +kernel
theorem dX10_ends_16 : decode cX10_ends 16 = .ok (.invokevirtual 94, 3) := by decide +kernel
theorem dX10_ends_19 : decode cX10_ends 19 = .ok (.ifCond .ne 5, 3) := by decide +kernel
theorem dX10_ends_22 : decode cX10_ends 22 = .ok (.iconst (-1), 1) := by decide +kernel
theorem dX10_ends_23 : decode cX10_ends 23 = .ok (.ireturn, 1) := by decide +kernel
theorem dX10_ends_24 : decode cX10_ends 24 = .ok (.iload_n 1, 1) := by decide +kernel
theorem dX10_ends_25 : decode cX10_ends 25 = .ok (.iload_n 2, 1) := by decide +kernel
theorem dX10_ends_26 : decode cX10_ends 26 = .ok (.if_icmp .ne 17, 3) := by decide +kernel
theorem dX10_ends_29 : decode cX10_ends 29 = .ok (.aload_n 0, 1) := by decide +kernel
theorem dX10_ends_30 : decode cX10_ends 30 = .ok (.getfield 14, 3) := by decide +kernel
theorem dX10_ends_33 : decode cX10_ends 33 = .ok (.getfield 140, 3) := by decide +kernel
theorem dX10_ends_36 : decode cX10_ends 36 = .ok (.iconst 1, 1) := by decide +kernel
theorem dX10_ends_37 : decode cX10_ends 37 = .ok (.if_icmp .le 6, 3) := by decide +kernel
theorem dX10_ends_40 : decode cX10_ends 40 = .ok (.bipush (-5), 2) := by decide +kernel
theorem dX10_ends_42 : decode cX10_ends 42 = .ok (.ireturn, 1) := by decide +kernel
theorem dX10_ends_43 : decode cX10_ends 43 = .ok (.iload_n 3, 1) := by decide +kernel
theorem dX10_ends_44 : decode cX10_ends 44 = .ok (.ifCond .lt 8, 3) := by decide +kernel
theorem dX10_ends_47 : decode cX10_ends 47 = .ok (.iload_n 3, 1) := by decide +kernel
theorem dX10_ends_48 : decode cX10_ends 48 = .ok (.iconst 2, 1) := by decide +kernel
theorem dX10_ends_49 : decode cX10_ends 49 = .ok (.if_icmp .le 6, 3) := by decide +kernel
theorem dX10_ends_52 : decode cX10_ends 52 = .ok (.bipush (-2), 2) := by decide +kernel
theorem dX10_ends_54 : decode cX10_ends 54 = .ok (.ireturn, 1) := by decide +kernel
theorem dX10_ends_55 : decode cX10_ends 55 = .ok (.aload_n 0, 1) := by decide +kernel
theorem dX10_ends_56 : decode cX10_ends 56 = .ok (.getfield 31, 3) := by decide +kernel
theorem dX10_ends_59 : decode cX10_ends 59 = .ok (.aload_n 0, 1) := by decide +kernel
theorem dX10_ends_60 : decode cX10_ends 60 = .ok (.getfield 14, 3) := by decide +kernel
theorem dX10_ends_63 : decode cX10_ends 63 = .ok (.aload_n 0, 1) := by decide +kernel
theorem dX10_ends_64 : decode cX10_ends 64 = .ok (.getfield 14, 3) := by decide +kernel
theorem dX10_ends_67 : decode cX10_ends 67 = .ok (.invokevirtual 180, 3) := by decide +kernel
theorem dX10_ends_70 : decode cX10_ends 70 = .ok (.aload_n 0, 1) := by decide +kernel
theorem dX10_ends_71 : decode cX10_ends 71 = .ok (.getfield 14, 3) := by decide +kernel
theorem dX10_ends_74 : decode cX10_ends 74 = .ok (.invokevirtual 183, 3) := by decide +kernel
theorem dX10_ends_77 : decode cX10_ends 77 = .ok (.iload_n 1, 1) := by decide +kernel
theorem dX10_ends_78 : decode cX10_ends 78 = .ok (.iload_n 2, 1) := by decide +kernel
theorem dX10_ends_79 : decode cX10_ends 79 = .ok (.invokevirtual 186, 3) := by decide +kernel
theorem dX10_ends_82 : decode cX10_ends 82 = .ok (.iload_n 3, 1) := by decide +kernel
theorem dX10_ends_83 : decode cX10_ends 83 = .ok (.lookupswitch 41 #[(0, 25), (1, 33)], 25) := by decide +kernel
theorem dX10_ends_108 : decode cX10_ends 108 = .ok (.aload_n 0, 1) := by decide +kernel
theorem dX10_ends_109 : decode cX10_ends 109 = .ok (.getfield 31, 3) := by decide +kernel
theorem dX10_ends_112 : decode cX10_ends 112 = .ok (.invokevirtual 168, 3) := by decide +kernel
theorem dX10_ends_115 : decode cX10_ends 115 = .ok (.ireturn, 1) := by decide +kernel
theorem dX10_ends_116 : decode cX10_ends 116 = .ok (.aload_n 0, 1) := by decide +kernel
theorem dX10_ends_117 : decode cX10_ends 117 = .ok (.getfield 31, 3) := by decide +kernel
theorem dX10_ends_120 : decode cX10_ends 120 = .ok (.invokevirtual 174, 3) := by decide +kernel
theorem dX10_ends_123 : decode cX10_ends 123 = .ok (.ireturn, 1) := by decide +kernel
theorem dX10_ends_124 : decode cX10_ends 124 = .ok (.aload_n 0, 1) := by decide +kernel
theorem dX10_ends_125 : decode cX10_ends 125 = .ok (.getfield 31, 3) := by decide +kernel
theorem dX10_ends_128 : decode cX10_ends 128 = .ok (.iconst 0, 1) := by decide +kernel
theorem dX10_ends_129 : decode cX10_ends 129 = .ok (.invokevirtual 171, 3) := by decide +kernel
theorem dX10_ends_132 : decode cX10_ends 132 = .ok (.ireturn, 1) := by decide +kernel
set_option maxRecDepth 20000 in
theorem ggX10_clusters_X10_readyPlan : GoodIn wsX10_clusters wsX10_readyPlan := goodIn_r _ [6, 7, 8, 9, 10, 11, 12, 13, 14, 15, 16, 17, 18, 19, 20, 21, 22, 23, 24, 25, 26, 27, 28, 29, 30, 31, 32, 33, 34, 35, 36, 37, 38, 39, 40, 41, 42, 43, 44, 45, 46, 47, 48, 49, 50, 51, 52, 53, 54, 55, 56, 57, 58, 59, 60, 128, 129, 130, 131, 132, 133, 134, 135, 136, 137, 138, 139, 140, 141, 142, 143, 144, 145, 146, 147, 148, 149, 150, 151, 152, 153, 154, 155, 156, 157] (by decide +kernel) (by decide +kernel)
set_option maxRecDepth 20000 in
theorem gX10_clusters_X10_readyPlan : GoodIn wsX10_clusters (wsV RX10 160 RX10 yX10_readyPlan wsX10_readyPlan) := goodIn_app (goodIn_of _ (by decide +kernel)) ggX10_clusters_X10_readyPlan
set_option maxRecDepth 20000 in
theorem ggX10_clusters_X3_least : GoodIn wsX10_clusters wsX3_least := goodIn_r _ [64, 45, 151, 152, 153, 154, 155, 156, 157] (by decide +kernel) (by decide +kernel)
set_option maxRecDepth 20000 in
theorem gX10_clusters_X3_least : GoodIn wsX10_clusters (wsV RX10 174 RX3 yX3_least wsX3_least) := goodIn_app (goodIn_of _ (by decide +kernel)) ggX10_clusters_X3_least
set_option maxRecDepth 20000 in
theorem ggX10_clusters_X10_readyTree : GoodIn wsX10_clusters wsX10_readyTree := goodIn_r _ [68, 69, 70, 2, 3, 4, 5, 6, 7, 8, 9, 10, 11, 12, 13, 14, 15, 16, 17, 18, 19, 20, 21, 22, 23, 24, 25, 26, 27, 28, 29, 30, 31, 32, 33, 34, 35, 36, 37, 38, 39, 40, 41, 42, 43, 44, 45, 46, 47, 48, 49, 50, 51, 52, 53, 54, 55, 56, 57, 58, 59, 60, 71, 72, 73, 74, 75, 76, 77, 78, 79, 80, 81, 82, 83, 84, 85, 86, 87, 88, 89, 90, 91, 92, 93, 94, 95, 96, 97, 98, 99, 100, 101, 102, 103, 104, 105, 106, 107, 108, 109, 110, 111, 112, 113, 114, 115, 116, 117, 118, 128, 129, 130, 131, 132, 133, 134, 135, 136, 137, 138, 139, 140, 141, 142, 143, 144, 145, 146, 147, 148, 149, 150, 151, 152, 153, 154, 155, 156, 157, 119, 120, 121, 122, 123, 124, 125, 126, 127] (by decide +kernel) (by decide +kernel)
set_option maxRecDepth 20000 in
theorem gX10_clusters_X10_readyTree : GoodIn wsX10_clusters (wsV RX10 190 RX10 yX10_readyTree wsX10_readyTree) := goodIn_app (goodIn_of _ (by decide +kernel)) ggX10_clusters_X10_readyTree
theorem dX10_clusters_0 : decode cX10_clusters 0 = .ok (.aload_n 0, 1) := by decide +kernel
theorem dX10_clusters_1 : decode cX10_clusters 1 = .ok (.invokevirtual 160, 3) := by decide +kernel
theorem dX10_clusters_4 : decode cX10_clusters 4 = .ok (.invokevirtual 174, 3) := by decide +kernel
theorem dX10_clusters_7 : decode cX10_clusters 7 = .ok (.ifCond .eq 8, 3) := by decide +kernel
theorem dX10_clusters_10 : decode cX10_clusters 10 = .ok (.bipush (-3), 2) := by decide +kernel
theorem dX10_clusters_12 : decode cX10_clusters 12 = .ok (.goto 10, 3) := by decide +kernel
theorem dX10_clusters_15 : decode cX10_clusters 15 = .ok (.aload_n 0, 1) := by decide +kernel
theorem dX10_clusters_16 : decode cX10_clusters 16 = .ok (.invokevirtual 190, 3) := by decide +kernel
theorem dX10_clusters_19 : decode cX10_clusters 19 = .ok (.getfield 194, 3) := by decide +kernel
theorem dX10_clusters_22 : decode cX10_clusters 22 = .ok (.ireturn, 1) := by decide +kernel
set_option maxRecDepth 20000 in
theorem ggX10_knots_X10_readyPlan : GoodIn wsX10_knots wsX10_readyPlan := goodIn_r _ [6, 7, 8, 9, 10, 11, 12, 13, 14, 15, 16, 17, 18, 19, 20, 21, 22, 23, 24, 25, 26, 27, 28, 29, 30, 31, 32, 33, 34, 35, 36, 37, 38, 39, 40, 41, 42, 43, 44, 45, 46, 47, 48, 49, 50, 51, 52, 53, 54, 55, 56, 57, 58, 59, 60, 132, 133, 134, 135, 136, 137, 138, 139, 140, 141, 142, 143, 144, 145, 146, 147, 148, 149, 150, 151, 152, 153, 154, 155, 156, 157, 158, 159, 160, 161] (by decide +kernel) (by decide +kernel)
set_option maxRecDepth 20000 in
theorem gX10_knots_X10_readyPlan : GoodIn wsX10_knots (wsV RX10 160 RX10 yX10_readyPlan wsX10_readyPlan) := goodIn_app (goodIn_of _ (by decide +kernel)) ggX10_knots_X10_readyPlan
set_option maxRecDepth 20000 in
theorem ggX10_knots_X3_least : GoodIn wsX10_knots wsX3_least := goodIn_r _ [64, 45, 155, 156, 157, 158, 159, 160, 161] (by decide +kernel) (by decide +kernel)
set_option maxRecDepth 20000 in
theorem gX10_knots_X3_least : GoodIn wsX10_knots (wsV RX10 174 RX3 yX3_least wsX3_least) := goodIn_app (goodIn_of _ (by decide +kernel)) ggX10_knots_X3_least
set_option maxRecDepth 20000 in
theorem ggX10_knots_X10_readyTree : GoodIn wsX10_knots wsX10_readyTree := goodIn_r _ [68, 69, 70, 2, 3, 4, 5, 6, 7, 8, 9, 10, 11, 12, 13, 14, 15, 16, 17, 18, 19, 20, 21, 22, 23, 24, 25, 26, 27, 28, 29, 30, 31, 32, 33, 34, 35, 36, 37, 38, 39, 40, 41, 42, 43, 44, 45, 46, 47, 48, 49, 50, 51, 52, 53, 54, 55, 56, 57, 58, 59, 60, 71, 72, 73, 74, 75, 76, 77, 78, 79, 80, 81, 82, 83, 84, 85, 86, 87, 88, 89, 90, 91, 92, 93, 94, 95, 96, 97, 98, 99, 100, 101, 102, 103, 104, 105, 106, 107, 108, 109, 110, 111, 112, 113, 114, 115, 116, 117, 118, 132, 133, 134, 135, 136, 137, 138, 139, 140, 141, 142, 143, 144, 145, 146, 147, 148, 149, 150, 151, 152, 153, 154, 155, 156, 157, 158, 159, 160, 161, 123, 124, 125, 126, 127, 128, 129, 130, 131] (by decide +kernel) (by decide +kernel)
set_option maxRecDepth 20000 in
theorem gX10_knots_X10_readyTree : GoodIn wsX10_knots (wsV RX10 190 RX10 yX10_readyTree wsX10_readyTree) := goodIn_app (goodIn_of _ (by decide +kernel)) ggX10_knots_X10_readyTree
set_option maxRecDepth 20000 in
theorem ggX10_knots_X9_ofSort : GoodIn wsX10_knots wsX9_ofSort := goodIn_r _ [122, 78, 81, 123, 124, 125, 126, 127, 128, 129, 130, 131] (by decide +kernel) (by decide +kernel)
set_option maxRecDepth 20000 in
theorem gX10_knots_X9_ofSort : GoodIn wsX10_knots (wsV RX10 198 RX9 yX9_ofSort wsX9_ofSort) := goodIn_app (goodIn_of _ (by decide +kernel)) ggX10_knots_X9_ofSort
theorem dX10_knots_0 : decode cX10_knots 0 = .ok (.iload_n 1, 1) := by decide +kernel
theorem dX10_knots_1 : decode cX10_knots 1 = .ok (.ifCond .lt 8, 3) := by decide +kernel
theorem dX10_knots_4 : decode cX10_knots 4 = .ok (.iload_n 1, 1) := by decide +kernel
theorem dX10_knots_5 : decode cX10_knots 5 = .ok (.iconst 2, 1) := by decide +kernel
theorem dX10_knots_6 : decode cX10_knots 6 = .ok (.if_icmp .le 6, 3) := by decide +kernel
theorem dX10_knots_9 : decode cX10_knots 9 = .ok (.bipush (-2), 2) := by decide +kernel
theorem dX10_knots_11 : decode cX10_knots 11 = .ok (.ireturn, 1) := by decide +kernel
theorem dX10_knots_12 : decode cX10_knots 12 = .ok (.aload_n 0, 1) := by decide +kernel
theorem dX10_knots_13 : decode cX10_knots 13 = .ok (.invokevirtual 160, 3) := by decide +kernel
theorem dX10_knots_16 : decode cX10_knots 16 = .ok (.invokevirtual 174, 3) := by decide +kernel
theorem dX10_knots_19 : decode cX10_knots 19 = .ok (.ifCond .eq 6, 3) := by decide +kernel
theorem dX10_knots_22 : decode cX10_knots 22 = .ok (.bipush (-3), 2) := by decide +kernel
theorem dX10_knots_24 : decode cX10_knots 24 = .ok (.ireturn, 1) := by decide +kernel
theorem dX10_knots_25 : decode cX10_knots 25 = .ok (.aload_n 0, 1) := by decide +kernel
theorem dX10_knots_26 : decode cX10_knots 26 = .ok (.invokevirtual 190, 3) := by decide +kernel
theorem dX10_knots_29 : decode cX10_knots 29 = .ok (.astore_n 2, 1) := by decide +kernel
theorem dX10_knots_30 : decode cX10_knots 30 = .ok (.iload_n 1, 1) := by decide +kernel
theorem dX10_knots_31 : decode cX10_knots 31 = .ok (.ifCond .ne 10, 3) := by decide +kernel
theorem dX10_knots_34 : decode cX10_knots 34 = .ok (.aload_n 2, 1) := by decide +kernel
theorem dX10_knots_35 : decode cX10_knots 35 = .ok (.getfield 197, 3) := by decide +kernel
theorem dX10_knots_38 : decode cX10_knots 38 = .ok (.goto 17, 3) := by decide +kernel
theorem dX10_knots_41 : decode cX10_knots 41 = .ok (.aload_n 2, 1) := by decide +kernel
theorem dX10_knots_42 : decode cX10_knots 42 = .ok (.iload_n 1, 1) := by decide +kernel
theorem dX10_knots_43 : decode cX10_knots 43 = .ok (.iconst 1, 1) := by decide +kernel
theorem dX10_knots_44 : decode cX10_knots 44 = .ok (.if_icmp .ne 7, 3) := by decide +kernel
theorem dX10_knots_47 : decode cX10_knots 47 = .ok (.iconst 1, 1) := by decide +kernel
theorem dX10_knots_48 : decode cX10_knots 48 = .ok (.goto 4, 3) := by decide +kernel
theorem dX10_knots_51 : decode cX10_knots 51 = .ok (.iconst 2, 1) := by decide +kernel
theorem dX10_knots_52 : decode cX10_knots 52 = .ok (.invokevirtual 198, 3) := by decide +kernel
theorem dX10_knots_55 : decode cX10_knots 55 = .ok (.ireturn, 1) := by decide +kernel
set_option maxRecDepth 20000 in
theorem ggX10_knot_X10_readyPlan : GoodIn wsX10_knot wsX10_readyPlan := goodIn_r _ [10, 11, 12, 13, 14, 15, 16, 17, 18, 19, 20, 21, 22, 23, 24, 25, 26, 27, 28, 29, 30, 31, 32, 33, 34, 35, 36, 37, 38, 39, 40, 41, 42, 43, 44, 45, 46, 47, 48, 49, 50, 51, 52, 53, 54, 55, 56, 57, 58, 59, 60, 61, 62, 63, 64, 132, 133, 134, 135, 136, 137, 138, 139, 140, 141, 142, 143, 144, 145, 146, 147, 148, 149, 150, 151, 152, 153, 154, 155, 156, 157, 158, 159, 160, 161] (by decide +kernel) (by decide +kernel)
set_option maxRecDepth 20000 in
theorem gX10_knot_X10_readyPlan : GoodIn wsX10_knot (wsV RX10 160 RX10 yX10_readyPlan wsX10_readyPlan) := goodIn_app (goodIn_of _ (by decide +kernel)) ggX10_knot_X10_readyPlan
set_option maxRecDepth 20000 in
theorem ggX10_knot_X3_least : GoodIn wsX10_knot wsX3_least := goodIn_r _ [68, 49, 155, 156, 157, 158, 159, 160, 161] (by decide +kernel) (by decide +kernel)
set_option maxRecDepth 20000 in
theorem gX10_knot_X3_least : GoodIn wsX10_knot (wsV RX10 174 RX3 yX3_least wsX3_least) := goodIn_app (goodIn_of _ (by decide +kernel)) ggX10_knot_X3_least
set_option maxRecDepth 20000 in
theorem ggX10_knot_X10_readyTree : GoodIn wsX10_knot wsX10_readyTree := goodIn_r _ [72, 73, 74, 6, 7, 8, 9, 10, 11, 12, 13, 14, 15, 16, 17, 18, 19, 20, 21, 22, 23, 24, 25, 26, 27, 28, 29, 30, 31, 32, 33, 34, 35, 36, 37, 38, 39, 40, 41, 42, 43, 44, 45, 46, 47, 48, 49, 50, 51, 52, 53, 54, 55, 56, 57, 58, 59, 60, 61, 62, 63, 64, 75, 76, 77, 78, 79, 80, 81, 82, 83, 84, 85, 86, 87, 88, 89, 90, 91, 92, 93, 94, 95, 96, 97, 98, 99, 100, 101, 102, 103, 104, 105, 106, 107, 108, 109, 110, 111, 112, 113, 114, 115, 116, 117, 118, 119, 120, 121, 122, 132, 133, 134, 135, 136, 137, 138, 139, 140, 141, 142, 143, 144, 145, 146, 147, 148, 149, 150, 151, 152, 153, 154, 155, 156, 157, 158, 159, 160, 161, 123, 124, 125, 126, 127, 128, 129, 130, 131] (by decide +kernel) (by decide +kernel)
set_option maxRecDepth 20000 in
theorem gX10_knot_X10_readyTree : GoodIn wsX10_knot (wsV RX10 190 RX10 yX10_readyTree wsX10_readyTree) := goodIn_app (goodIn_of _ (by decide +kernel)) ggX10_knot_X10_readyTree
theorem dX10_knot_0 : decode cX10_knot 0 = .ok (.aload_n 0, 1) := by decide +kernel
theorem dX10_knot_1 : decode cX10_knot 1 = .ok (.invokevirtual 160, 3) := by decide +kernel
theorem dX10_knot_4 : decode cX10_knot 4 = .ok (.invokevirtual 174, 3) := by decide +kernel
theorem dX10_knot_7 : decode cX10_knot 7 = .ok (.ifCond .eq 6, 3) := by decide +kernel
theorem dX10_knot_10 : decode cX10_knot 10 = .ok (.bipush (-3), 2) := by decide +kernel
theorem dX10_knot_12 : decode cX10_knot 12 = .ok (.ireturn, 1) := by decide +kernel
theorem dX10_knot_13 : decode cX10_knot 13 = .ok (.aload_n 0, 1) := by decide +kernel
theorem dX10_knot_14 : decode cX10_knot 14 = .ok (.invokevirtual 190, 3) := by decide +kernel
theorem dX10_knot_17 : decode cX10_knot 17 = .ok (.astore_n 3, 1) := by decide +kernel
theorem dX10_knot_18 : decode cX10_knot 18 = .ok (.iload_n 1, 1) := by decide +kernel
theorem dX10_knot_19 : decode cX10_knot 19 = .ok (.ifCond .lt 11, 3) := by decide +kernel
theorem dX10_knot_22 : decode cX10_knot 22 = .ok (.iload_n 1, 1) := by decide +kernel
theorem dX10_knot_23 : decode cX10_knot 23 = .ok (.aload_n 3, 1) := by decide +kernel
theorem dX10_knot_24 : decode cX10_knot 24 = .ok (.getfield 197, 3) := by decide +kernel
theorem dX10_knot_27 : decode cX10_knot 27 = .ok (.if_icmp .lt 5, 3) := by decide +kernel
theorem dX10_knot_30 : decode cX10_knot 30 = .ok (.iconst (-1), 1) := by decide +kernel
theorem dX10_knot_31 : decode cX10_knot 31 = .ok (.ireturn, 1) := by decide +kernel
theorem dX10_knot_32 : decode cX10_knot 32 = .ok (.iload_n 2, 1) := by decide +kernel
theorem dX10_knot_33 : decode cX10_knot 33 = .ok (.tableswitch 77 0 4 #[35, 42, 77, 49, 56], 35) := by decide +kernel
theorem dX10_knot_68 : decode cX10_knot 68 = .ok (.aload_n 3, 1) := by decide +kernel
theorem dX10_knot_69 : decode cX10_knot 69 = .ok (.getfield 201, 3) := by decide +kernel
theorem dX10_knot_72 : decode cX10_knot 72 = .ok (.iload_n 1, 1) := by decide +kernel
theorem dX10_knot_73 : decode cX10_knot 73 = .ok (.iaload, 1) := by decide +kernel
theorem dX10_knot_74 : decode cX10_knot 74 = .ok (.ireturn, 1) := by decide +kernel
theorem dX10_knot_75 : decode cX10_knot 75 = .ok (.aload_n 3, 1) := by decide +kernel
theorem dX10_knot_76 : decode cX10_knot 76 = .ok (.getfield 204, 3) := by decide +kernel
theorem dX10_knot_79 : decode cX10_knot 79 = .ok (.iload_n 1, 1) := by decide +kernel
theorem dX10_knot_80 : decode cX10_knot 80 = .ok (.iaload, 1) := by decide +kernel
theorem dX10_knot_81 : decode cX10_knot 81 = .ok (.ireturn, 1) := by decide +kernel
theorem dX10_knot_82 : decode cX10_knot 82 = .ok (.aload_n 3, 1) := by decide +kernel
theorem dX10_knot_83 : decode cX10_knot 83 = .ok (.getfield 207, 3) := by decide +kernel
theorem dX10_knot_86 : decode cX10_knot 86 = .ok (.iload_n 1, 1) := by decide +kernel
theorem dX10_knot_87 : decode cX10_knot 87 = .ok (.iaload, 1) := by decide +kernel
theorem dX10_knot_88 : decode cX10_knot 88 = .ok (.ireturn, 1) := by decide +kernel
theorem dX10_knot_89 : decode cX10_knot 89 = .ok (.aload_n 3, 1) := by decide +kernel
theorem dX10_knot_90 : decode cX10_knot 90 = .ok (.getfield 210, 3) := by decide +kernel
theorem dX10_knot_93 : decode cX10_knot 93 = .ok (.iload_n 1, 1) := by decide +kernel
theorem dX10_knot_94 : decode cX10_knot 94 = .ok (.iaload, 1) := by decide +kernel
theorem dX10_knot_95 : decode cX10_knot 95 = .ok (.ifCond .ge 8, 3) := by decide +kernel
theorem dX10_knot_98 : decode cX10_knot 98 = .ok (.bipush (-5), 2) := by decide +kernel
theorem dX10_knot_100 : decode cX10_knot 100 = .ok (.goto 9, 3) := by decide +kernel
theorem dX10_knot_103 : decode cX10_knot 103 = .ok (.aload_n 3, 1) := by decide +kernel
theorem dX10_knot_104 : decode cX10_knot 104 = .ok (.getfield 210, 3) := by decide +kernel
theorem dX10_knot_107 : decode cX10_knot 107 = .ok (.iload_n 1, 1) := by decide +kernel
theorem dX10_knot_108 : decode cX10_knot 108 = .ok (.iaload, 1) := by decide +kernel
theorem dX10_knot_109 : decode cX10_knot 109 = .ok (.ireturn, 1) := by decide +kernel
theorem dX10_knot_110 : decode cX10_knot 110 = .ok (.iconst (-1), 1) := by decide +kernel
theorem dX10_knot_111 : decode cX10_knot 111 = .ok (.ireturn, 1) := by decide +kernel
set_option maxRecDepth 20000 in
theorem ggX10_told_X10_readyPlan : GoodIn wsX10_told wsX10_readyPlan := goodIn_r _ [6, 7, 8, 9, 10, 11, 12, 13, 14, 15, 16, 17, 18, 19, 20, 21, 22, 23, 24, 25, 26, 27, 28, 29, 30, 31, 32, 33, 34, 35, 36, 37, 38, 39, 40, 41, 42, 43, 44, 45, 46, 47, 48, 49, 50, 51, 52, 53, 54, 55, 56, 57, 58, 59, 60, 124, 125, 126, 127, 128, 129, 130, 131, 132, 133, 134, 135, 136, 137, 138, 139, 140, 141, 142, 143, 144, 145, 146, 147, 148, 149, 150, 151, 152, 153] (by decide +kernel) (by decide +kernel)
set_option maxRecDepth 20000 in
theorem gX10_told_X10_readyPlan : GoodIn wsX10_told (wsV RX10 160 RX10 yX10_readyPlan wsX10_readyPlan) := goodIn_app (goodIn_of _ (by decide +kernel)) ggX10_told_X10_readyPlan
set_option maxRecDepth 20000 in
theorem ggX10_told_X3_least : GoodIn wsX10_told wsX3_least := goodIn_r _ [64, 45, 147, 148, 149, 150, 151, 152, 153] (by decide +kernel) (by decide +kernel)
set_option maxRecDepth 20000 in
theorem gX10_told_X3_least : GoodIn wsX10_told (wsV RX10 174 RX3 yX3_least wsX3_least) := goodIn_app (goodIn_of _ (by decide +kernel)) ggX10_told_X3_least
set_option maxRecDepth 20000 in
theorem ggX10_told_X10_readyTree : GoodIn wsX10_told wsX10_readyTree := goodIn_r _ [68, 69, 70, 2, 3, 4, 5, 6, 7, 8, 9, 10, 11, 12, 13, 14, 15, 16, 17, 18, 19, 20, 21, 22, 23, 24, 25, 26, 27, 28, 29, 30, 31, 32, 33, 34, 35, 36, 37, 38, 39, 40, 41, 42, 43, 44, 45, 46, 47, 48, 49, 50, 51, 52, 53, 54, 55, 56, 57, 58, 59, 60, 71, 72, 73, 74, 75, 76, 77, 78, 79, 80, 81, 82, 83, 84, 85, 86, 87, 88, 89, 90, 91, 92, 93, 94, 95, 96, 97, 98, 99, 100, 101, 102, 103, 104, 105, 106, 107, 108, 109, 110, 111, 112, 113, 114, 115, 116, 117, 118, 124, 125, 126, 127, 128, 129, 130, 131, 132, 133, 134, 135, 136, 137, 138, 139, 140, 141, 142, 143, 144, 145, 146, 147, 148, 149, 150, 151, 152, 153, 154, 155, 156, 157, 158, 159, 160, 161, 162] (by decide +kernel) (by decide +kernel)
set_option maxRecDepth 20000 in
theorem gX10_told_X10_readyTree : GoodIn wsX10_told (wsV RX10 190 RX10 yX10_readyTree wsX10_readyTree) := goodIn_app (goodIn_of _ (by decide +kernel)) ggX10_told_X10_readyTree
set_option maxRecDepth 20000 in
theorem ggX10_told_X9_product : GoodIn wsX10_told wsX9_product := goodIn_r _ [122, 78, 79, 81, 123, 154, 155, 156, 157, 158, 159, 160, 161, 162] (by decide +kernel) (by decide +kernel)
set_option maxRecDepth 20000 in
theorem gX10_told_X9_product : GoodIn wsX10_told (wsV RX10 215 RX9 yX9_product wsX9_product) := goodIn_app (goodIn_of _ (by decide +kernel)) ggX10_told_X9_product
theorem dX10_told_0 : decode cX10_told 0 = .ok (.aload_n 0, 1) := by decide +kernel
theorem dX10_told_1 : decode cX10_told 1 = .ok (.invokevirtual 160, 3) := by decide +kernel
theorem dX10_told_4 : decode cX10_told 4 = .ok (.invokevirtual 174, 3) := by decide +kernel
theorem dX10_told_7 : decode cX10_told 7 = .ok (.ifCond .eq 9, 3) := by decide +kernel
theorem dX10_told_10 : decode cX10_told 10 = .ok (.ldc2_w 213, 3) := by decide +kernel
theorem dX10_told_13 : decode cX10_told 13 = .ok (.goto 10, 3) := by decide +kernel
theorem dX10_told_16 : decode cX10_told 16 = .ok (.aload_n 0, 1) := by decide +kernel
theorem dX10_told_17 : decode cX10_told 17 = .ok (.invokevirtual 190, 3) := by decide +kernel
theorem dX10_told_20 : decode cX10_told 20 = .ok (.invokevirtual 215, 3) := by decide +kernel
theorem dX10_told_23 : decode cX10_told 23 = .ok (.lreturn, 1) := by decide +kernel
set_option maxRecDepth 20000 in
theorem ggX10_spoils_X10_readyPlan : GoodIn wsX10_spoils wsX10_readyPlan := goodIn_r _ [5, 6, 7, 8, 9, 10, 11, 12, 13, 14, 15, 16, 17, 18, 19, 20, 21, 22, 23, 24, 25, 26, 27, 28, 29, 30, 31, 32, 33, 34, 35, 36, 37, 38, 39, 40, 41, 42, 43, 44, 45, 46, 47, 48, 49, 50, 51, 52, 53, 54, 55, 56, 57, 58, 59, 76, 77, 78, 79, 80, 81, 82, 83, 84, 85, 86, 87, 88, 89, 90, 91, 92, 93, 94, 95, 96, 97, 98, 99, 100, 101, 102, 103, 104, 105] (by decide +kernel) (by decide +kernel)
set_option maxRecDepth 20000 in
theorem gX10_spoils_X10_readyPlan : GoodIn wsX10_spoils (wsV RX10 160 RX10 yX10_readyPlan wsX10_readyPlan) := goodIn_app (goodIn_of _ (by decide +kernel)) ggX10_spoils_X10_readyPlan
set_option maxRecDepth 20000 in
theorem ggX10_spoils_X3_least : GoodIn wsX10_spoils wsX3_least := goodIn_r _ [63, 44, 99, 100, 101, 102, 103, 104, 105] (by decide +kernel) (by decide +kernel)
set_option maxRecDepth 20000 in
theorem gX10_spoils_X3_least : GoodIn wsX10_spoils (wsV RX10 174 RX3 yX3_least wsX3_least) := goodIn_app (goodIn_of _ (by decide +kernel)) ggX10_spoils_X3_least
set_option maxRecDepth 20000 in
theorem ggX10_spoils_X10_spoilingTypes : GoodIn wsX10_spoils wsX10_spoilingTypes := goodIn_r _ [67, 8, 68, 69, 9, 10, 11, 12, 13, 14, 15, 16, 17, 18, 19, 20, 21, 22, 23, 24, 25, 26, 27, 28, 29, 30, 31, 32, 33, 34, 35, 36, 37, 38, 39, 40, 41, 42, 43, 44, 45, 46, 47, 48, 49, 50, 51, 52, 53, 54, 55, 56, 57, 58, 59, 60, 61, 62, 63, 76, 77, 78, 79, 80, 81, 82, 83, 84, 85, 86, 87, 88, 89, 90, 91, 92, 93, 94, 95, 96, 97, 98, 99, 100, 101, 102, 103, 104, 105] (by decide +kernel) (by decide +kernel)
set_option maxRecDepth 20000 in
theorem gX10_spoils_X10_spoilingTypes : GoodIn wsX10_spoils (wsV RX10 219 RX10 yX10_spoilingTypes wsX10_spoilingTypes) := goodIn_app (goodIn_of _ (by decide +kernel)) ggX10_spoils_X10_spoilingTypes
set_option maxRecDepth 20000 in
theorem ggX10_spoils_X10_spoilingGraves : GoodIn wsX10_spoils wsX10_spoilingGraves := goodIn_r _ [73, 8, 74, 69, 9, 10, 11, 12, 13, 14, 15, 16, 17, 18, 19, 20, 21, 22, 23, 24, 25, 26, 27, 28, 29, 30, 31, 32, 33, 34, 35, 36, 37, 38, 39, 40, 41, 42, 43, 44, 45, 46, 47, 48, 49, 50, 51, 52, 53, 54, 55, 56, 57, 58, 59, 60, 61, 62, 63, 76, 77, 78, 79, 80, 81, 82, 83, 84, 85, 86, 87, 88, 89, 90, 91, 92, 93, 94, 95, 96, 97, 98, 99, 100, 101, 102, 103, 104, 105] (by decide +kernel) (by decide +kernel)
set_option maxRecDepth 20000 in
theorem gX10_spoils_X10_spoilingGraves : GoodIn wsX10_spoils (wsV RX10 222 RX10 yX10_spoilingGraves wsX10_spoilingGraves) := goodIn_app (goodIn_of _ (by decide +kernel)) ggX10_spoils_X10_spoilingGraves
set_option maxRecDepth 20000 in
theorem ggX10_spoils_J6_numberOfTrailingZeros_0f7a4 : GoodIn wsX10_spoils wsJ6_numberOfTrailingZeros_0f7a4 := goodIn_r _ [38, 39] (by decide +kernel) (by decide +kernel)
set_option maxRecDepth 20000 in
theorem gX10_spoils_J6_numberOfTrailingZeros_0f7a4 : GoodIn wsX10_spoils (va_wsS RX10 225 yJ6_numberOfTrailingZeros_0f7a4 wsJ6_numberOfTrailingZeros_0f7a4) := goodIn_app (goodIn_of _ (by decide +kernel)) ggX10_spoils_J6_numberOfTrailingZeros_0f7a4
theorem dX10_spoils_0 : decode cX10_spoils 0 = .ok (.iload_n 1, 1) := by decide +kernel
theorem dX10_spoils_1 : decode cX10_spoils 1 = .ok (.ifCond .lt 8, 3) := by decide +kernel
theorem dX10_spoils_4 : decode cX10_spoils 4 = .ok (.iload_n 1, 1) := by decide +kernel
theorem dX10_spoils_5 : decode cX10_spoils 5 = .ok (.iconst 2, 1) := by decide +kernel
theorem dX10_spoils_6 : decode cX10_spoils 6 = .ok (.if_icmp .le 6, 3) := by decide +kernel
theorem dX10_spoils_9 : decode cX10_spoils 9 = .ok (.bipush (-2), 2) := by decide +kernel
theorem dX10_spoils_11 : decode cX10_spoils 11 = .ok (.ireturn, 1) := by decide +kernel
theorem dX10_spoils_12 : decode cX10_spoils 12 = .ok (.aload_n 0, 1) := by decide +kernel
theorem dX10_spoils_13 : decode cX10_spoils 13 = .ok (.invokevirtual 160, 3) := by decide +kernel
theorem dX10_spoils_16 : decode cX10_spoils 16 = .ok (.invokevirtual 174, 3) := by decide +kernel
theorem dX10_spoils_19 : decode cX10_spoils 19 = .ok (.ifCond .ne 7, 3) := by decide +kernel
theorem dX10_spoils_22 : decode cX10_spoils 22 = .ok (.iconst 1, 1) := by decide +kernel
theorem dX10_spoils_23 : decode cX10_spoils 23 = .ok (.goto 4, 3) := by decide +kernel
theorem dX10_spoils_26 : decode cX10_spoils 26 = .ok (.iconst 0, 1) := by decide +kernel
theorem dX10_spoils_27 : decode cX10_spoils 27 = .ok (.istore_n 2, 1) := by decide +kernel
theorem dX10_spoils_28 : decode cX10_spoils 28 = .ok (.iload_n 1, 1) := by decide +kernel
theorem dX10_spoils_29 : decode cX10_spoils 29 = .ok (.iconst 1, 1) := by decide +kernel
theorem dX10_spoils_30 : decode cX10_spoils 30 = .ok (.if_icmp .ne 16, 3) := by decide +kernel
theorem dX10_spoils_33 : decode cX10_spoils 33 = .ok (.iload_n 2, 1) := by decide +kernel
theorem dX10_spoils_34 : decode cX10_spoils 34 = .ok (.ifCond .eq 7, 3) := by decide +kernel
theorem dX10_spoils_37 : decode cX10_spoils 37 = .ok (.iconst 0, 1) := by decide +kernel
theorem dX10_spoils_38 : decode cX10_spoils 38 = .ok (.goto 7, 3) := by decide +kernel
theorem dX10_spoils_41 : decode cX10_spoils 41 = .ok (.aload_n 0, 1) := by decide +kernel
theorem dX10_spoils_42 : decode cX10_spoils 42 = .ok (.invokevirtual 219, 3) := by decide +kernel
theorem dX10_spoils_45 : decode cX10_spoils 45 = .ok (.ireturn, 1) := by decide +kernel
theorem dX10_spoils_46 : decode cX10_spoils 46 = .ok (.iload_n 2, 1) := by decide +kernel
theorem dX10_spoils_47 : decode cX10_spoils 47 = .ok (.ifCond .eq 7, 3) := by decide +kernel
theorem dX10_spoils_50 : decode cX10_spoils 50 = .ok (.iconst 0, 1) := by decide +kernel
theorem dX10_spoils_51 : decode cX10_spoils 51 = .ok (.goto 7, 3) := by decide +kernel
theorem dX10_spoils_54 : decode cX10_spoils 54 = .ok (.aload_n 0, 1) := by decide +kernel
theorem dX10_spoils_55 : decode cX10_spoils 55 = .ok (.invokevirtual 222, 3) := by decide +kernel
theorem dX10_spoils_58 : decode cX10_spoils 58 = .ok (.istore_n 3, 1) := by decide +kernel
theorem dX10_spoils_59 : decode cX10_spoils 59 = .ok (.iload_n 1, 1) := by decide +kernel
theorem dX10_spoils_60 : decode cX10_spoils 60 = .ok (.ifCond .ne 5, 3) := by decide +kernel
theorem dX10_spoils_63 : decode cX10_spoils 63 = .ok (.iload_n 3, 1) := by decide +kernel
theorem dX10_spoils_64 : decode cX10_spoils 64 = .ok (.ireturn, 1) := by decide +kernel
theorem dX10_spoils_65 : decode cX10_spoils 65 = .ok (.iload_n 3, 1) := by decide +kernel
theorem dX10_spoils_66 : decode cX10_spoils 66 = .ok (.ifCond .ne 8, 3) := by decide +kernel
theorem dX10_spoils_69 : decode cX10_spoils 69 = .ok (.bipush (-5), 2) := by decide +kernel
theorem dX10_spoils_71 : decode cX10_spoils 71 = .ok (.goto 7, 3) := by decide +kernel
theorem dX10_spoils_74 : decode cX10_spoils 74 = .ok (.iload_n 3, 1) := by decide +kernel
theorem dX10_spoils_75 : decode cX10_spoils 75 = .ok (.invokestatic 225, 3) := by decide +kernel
theorem dX10_spoils_78 : decode cX10_spoils 78 = .ok (.ireturn, 1) := by decide +kernel
set_option maxRecDepth 20000 in
theorem ggX10_spoilingGraves_X5_everybody : GoodIn wsX10_spoilingGraves wsX5_everybody := goodIn_r _ [8, 9, 77, 78, 79, 80, 81] (by decide +kernel) (by decide +kernel)
set_option maxRecDepth 20000 in
theorem gX10_spoilingGraves_X5_everybody : GoodIn wsX10_spoilingGraves (wsV RX10 180 RX5 yX5_everybody wsX5_everybody) := goodIn_app (goodIn_of _ (by decide +kernel)) ggX10_spoilingGraves_X5_everybody
set_option maxRecDepth 20000 in
theorem ggX10_spoilingGraves_X5_everything : GoodIn wsX10_spoilingGraves wsX5_everything := goodIn_r _ [13, 14, 77, 78, 79, 80, 81] (by decide +kernel) (by decide +kernel)
set_option maxRecDepth 20000 in
theorem gX10_spoilingGraves_X5_everything : GoodIn wsX10_spoilingGraves (wsV RX10 183 RX5 yX5_everything wsX5_everything) := goodIn_app (goodIn_of _ (by decide +kernel)) ggX10_spoilingGraves_X5_everything
set_option maxRecDepth 20000 in
theorem ggX10_spoilingGraves_X3_make : GoodIn wsX10_spoilingGraves wsX3_make := goodIn_r _ [19, 20, 21, 22, 23, 24, 25, 26, 27, 28, 7, 29, 9, 30, 31, 32, 33, 34, 35, 36, 37, 18, 38, 39, 40, 41, 42, 43, 44, 45, 46, 47, 48, 49, 50, 51, 52, 53, 54, 82, 83, 84, 85, 86, 87, 88, 77, 78, 79, 80, 81] (by decide +kernel) (by decide +kernel)
set_option maxRecDepth 20000 in
theorem gX10_spoilingGraves_X3_make : GoodIn wsX10_spoilingGraves (wsV RX10 186 RX3 yX3_make wsX3_make) := goodIn_app (goodIn_of _ (by decide +kernel)) ggX10_spoilingGraves_X3_make
set_option maxRecDepth 20000 in
theorem ggX10_spoilingGraves_X3_least : GoodIn wsX10_spoilingGraves wsX3_least := goodIn_r _ [58, 39, 82, 83, 84, 85, 86, 87, 88] (by decide +kernel) (by decide +kernel)
set_option maxRecDepth 20000 in
theorem gX10_spoilingGraves_X3_least : GoodIn wsX10_spoilingGraves (wsV RX10 174 RX3 yX3_least wsX3_least) := goodIn_app (goodIn_of _ (by decide +kernel)) ggX10_spoilingGraves_X3_least
theorem dX10_spoilingGraves_0 : decode cX10_spoilingGraves 0 = .ok (.iconst 0, 1) := by decide +kernel
theorem dX10_spoilingGraves_1 : decode cX10_spoilingGraves 1 = .ok (.istore_n 1, 1) := by decide +kernel
theorem dX10_spoilingGraves_2 : decode cX10_spoilingGraves 2 = .ok (.iconst 0, 1) := by decide +kernel
theorem dX10_spoilingGraves_3 : decode cX10_spoilingGraves 3 = .ok (.istore_n 2, 1) := by decide +kernel
theorem dX10_spoilingGraves_4 : decode cX10_spoilingGraves 4 = .ok (.iload_n 2, 1) := by decide +kernel
theorem dX10_spoilingGraves_5 : decode cX10_spoilingGraves 5 = .ok (.aload_n 0, 1) := by decide +kernel
theorem dX10_spoilingGraves_6 : decode cX10_spoilingGraves 6 = .ok (.getfield 14, 3) := by decide +kernel
theorem dX10_spoilingGraves_9 : decode cX10_spoilingGraves 9 = .ok (.getfield 140, 3) := by decide +kernel
theorem dX10_spoilingGraves_12 : decode cX10_spoilingGraves 12 = .ok (.if_icmp .ge 58, 3) := by decide +kernel
theorem dX10_spoilingGraves_15 : decode cX10_spoilingGraves 15 = .ok (.aload_n 0, 1) := by decide +kernel
theorem dX10_spoilingGraves_16 : decode cX10_spoilingGraves 16 = .ok (.getfield 31, 3) := by decide +kernel
theorem dX10_spoilingGraves_19 : decode cX10_spoilingGraves 19 = .ok (.aload_n 0, 1) := by decide +kernel
theorem dX10_spoilingGraves_20 : decode cX10_spoilingGraves 20 = .ok (.getfield 14, 3) := by decide +kernel
theorem dX10_spoilingGraves_23 : decode cX10_spoilingGraves 23 = .ok (.aload_n 0, 1) := by decide +kernel
theorem dX10_spoilingGraves_24 : decode cX10_spoilingGraves 24 = .ok (.getfield 14, 3) := by decide +kernel
theorem dX10_spoilingGraves_27 : decode cX10_spoilingGraves 27 = .ok (.invokevirtual 180, 3) := by decide +kernel
theorem dX10_spoilingGraves_30 : decode cX10_spoilingGraves 30 = .ok (.iconst 1, 1) := by decide +kernel
theorem dX10_spoilingGraves_31 : decode cX10_spoilingGraves 31 = .ok (.iload_n 2, 1) := by decide +kernel
theorem dX10_spoilingGraves_32 : decode cX10_spoilingGraves 32 = .ok (.ishl, 1) := by decide +kernel
theorem dX10_spoilingGraves_33 : decode cX10_spoilingGraves 33 = .ok (.iconst (-1), 1) := by decide +kernel
theorem dX10_spoilingGraves_34 : decode cX10_spoilingGraves 34 = .ok (.ixor, 1) := by decide +kernel
theorem dX10_spoilingGraves_35 : decode cX10_spoilingGraves 35 = .ok (.iand, 1) := by decide +kernel
theorem dX10_spoilingGraves_36 : decode cX10_spoilingGraves 36 = .ok (.aload_n 0, 1) := by decide +kernel
theorem dX10_spoilingGraves_37 : decode cX10_spoilingGraves 37 = .ok (.getfield 14, 3) := by decide +kernel
theorem dX10_spoilingGraves_40 : decode cX10_spoilingGraves 40 = .ok (.invokevirtual 183, 3) := by decide +kernel
theorem dX10_spoilingGraves_43 : decode cX10_spoilingGraves 43 = .ok (.iconst (-1), 1) := by decide +kernel
theorem dX10_spoilingGraves_44 : decode cX10_spoilingGraves 44 = .ok (.iconst (-1), 1) := by decide +kernel
theorem dX10_spoilingGraves_45 : decode cX10_spoilingGraves 45 = .ok (.invokevirtual 186, 3) := by decide +kernel
theorem dX10_spoilingGraves_48 : decode cX10_spoilingGraves 48 = .ok (.aload_n 0, 1) := by decide +kernel
theorem dX10_spoilingGraves_49 : decode cX10_spoilingGraves 49 = .ok (.getfield 31, 3) := by decide +kernel
theorem dX10_spoilingGraves_52 : decode cX10_spoilingGraves 52 = .ok (.invokevirtual 174, 3) := by decide +kernel
theorem dX10_spoilingGraves_55 : decode cX10_spoilingGraves 55 = .ok (.ifCond .ne 9, 3) := by decide +kernel
theorem dX10_spoilingGraves_58 : decode cX10_spoilingGraves 58 = .ok (.iload_n 1, 1) := by decide +kernel
theorem dX10_spoilingGraves_59 : decode cX10_spoilingGraves 59 = .ok (.iconst 1, 1) := by decide +kernel
theorem dX10_spoilingGraves_60 : decode cX10_spoilingGraves 60 = .ok (.iload_n 2, 1) := by decide +kernel
theorem dX10_spoilingGraves_61 : decode cX10_spoilingGraves 61 = .ok (.ishl, 1) := by decide +kernel
theorem dX10_spoilingGraves_62 : decode cX10_spoilingGraves 62 = .ok (.ior, 1) := by decide +kernel
theorem dX10_spoilingGraves_63 : decode cX10_spoilingGraves 63 = .ok (.istore_n 1, 1) := by decide +kernel
theorem dX10_spoilingGraves_64 : decode cX10_spoilingGraves 64 = .ok (.iinc 2 1, 3) := by decide +kernel
theorem dX10_spoilingGraves_67 : decode cX10_spoilingGraves 67 = .ok (.goto (-63), 3) := by decide +kernel
theorem dX10_spoilingGraves_70 : decode cX10_spoilingGraves 70 = .ok (.iload_n 1, 1) := by decide +kernel
theorem dX10_spoilingGraves_71 : decode cX10_spoilingGraves 71 = .ok (.ireturn, 1) := by decide +kernel
set_option maxRecDepth 20000 in
theorem ggX10_spoilingTypes_X5_everybody : GoodIn wsX10_spoilingTypes wsX5_everybody := goodIn_r _ [8, 9, 77, 78, 79, 80, 81] (by decide +kernel) (by decide +kernel)
set_option maxRecDepth 20000 in
theorem gX10_spoilingTypes_X5_everybody : GoodIn wsX10_spoilingTypes (wsV RX10 180 RX5 yX5_everybody wsX5_everybody) := goodIn_app (goodIn_of _ (by decide +kernel)) ggX10_spoilingTypes_X5_everybody
set_option maxRecDepth 20000 in
theorem ggX10_spoilingTypes_X5_everything : GoodIn wsX10_spoilingTypes wsX5_everything := goodIn_r _ [13, 14, 77, 78, 79, 80, 81] (by decide +kernel) (by decide +kernel)
set_option maxRecDepth 20000 in
theorem gX10_spoilingTypes_X5_everything : GoodIn wsX10_spoilingTypes (wsV RX10 183 RX5 yX5_everything wsX5_everything) := goodIn_app (goodIn_of _ (by decide +kernel)) ggX10_spoilingTypes_X5_everything
set_option maxRecDepth 20000 in
theorem ggX10_spoilingTypes_X3_make : GoodIn wsX10_spoilingTypes wsX3_make := goodIn_r _ [19, 20, 21, 22, 23, 24, 25, 26, 27, 28, 7, 29, 9, 30, 31, 32, 33, 34, 35, 36, 37, 18, 38, 39, 40, 41, 42, 43, 44, 45, 46, 47, 48, 49, 50, 51, 52, 53, 54, 82, 83, 84, 85, 86, 87, 88, 77, 78, 79, 80, 81] (by decide +kernel) (by decide +kernel)
set_option maxRecDepth 20000 in
theorem gX10_spoilingTypes_X3_make : GoodIn wsX10_spoilingTypes (wsV RX10 186 RX3 yX3_make wsX3_make) := goodIn_app (goodIn_of _ (by decide +kernel)) ggX10_spoilingTypes_X3_make
set_option maxRecDepth 20000 in
theorem ggX10_spoilingTypes_X3_least : GoodIn wsX10_spoilingTypes wsX3_least := goodIn_r _ [58, 39, 82, 83, 84, 85, 86, 87, 88] (by decide +kernel) (by decide +kernel)
set_option maxRecDepth 20000 in
theorem gX10_spoilingTypes_X3_least : GoodIn wsX10_spoilingTypes (wsV RX10 174 RX3 yX3_least wsX3_least) := goodIn_app (goodIn_of _ (by decide +kernel)) ggX10_spoilingTypes_X3_least
theorem dX10_spoilingTypes_0 : decode cX10_spoilingTypes 0 = .ok (.iconst 0, 1) := by decide +kernel
theorem dX10_spoilingTypes_1 : decode cX10_spoilingTypes 1 = .ok (.istore_n 1, 1) := by decide +kernel
theorem dX10_spoilingTypes_2 : decode cX10_spoilingTypes 2 = .ok (.iconst 0, 1) := by decide +kernel
theorem dX10_spoilingTypes_3 : decode cX10_spoilingTypes 3 = .ok (.istore_n 2, 1) := by decide +kernel
theorem dX10_spoilingTypes_4 : decode cX10_spoilingTypes 4 = .ok (.iload_n 2, 1) := by decide +kernel
theorem dX10_spoilingTypes_5 : decode cX10_spoilingTypes 5 = .ok (.aload_n 0, 1) := by decide +kernel
theorem dX10_spoilingTypes_6 : decode cX10_spoilingTypes 6 = .ok (.getfield 14, 3) := by decide +kernel
theorem dX10_spoilingTypes_9 : decode cX10_spoilingTypes 9 = .ok (.getfield 144, 3) := by decide +kernel
theorem dX10_spoilingTypes_12 : decode cX10_spoilingTypes 12 = .ok (.if_icmp .ge 58, 3) := by decide +kernel
theorem dX10_spoilingTypes_15 : decode cX10_spoilingTypes 15 = .ok (.aload_n 0, 1) := by decide +kernel
theorem dX10_spoilingTypes_16 : decode cX10_spoilingTypes 16 = .ok (.getfield 31, 3) := by decide +kernel
theorem dX10_spoilingTypes_19 : decode cX10_spoilingTypes 19 = .ok (.aload_n 0, 1) := by decide +kernel
theorem dX10_spoilingTypes_20 : decode cX10_spoilingTypes 20 = .ok (.getfield 14, 3) := by decide +kernel
theorem dX10_spoilingTypes_23 : decode cX10_spoilingTypes 23 = .ok (.aload_n 0, 1) := by decide +kernel
theorem dX10_spoilingTypes_24 : decode cX10_spoilingTypes 24 = .ok (.getfield 14, 3) := by decide +kernel
theorem dX10_spoilingTypes_27 : decode cX10_spoilingTypes 27 = .ok (.invokevirtual 180, 3) := by decide +kernel
theorem dX10_spoilingTypes_30 : decode cX10_spoilingTypes 30 = .ok (.aload_n 0, 1) := by decide +kernel
theorem dX10_spoilingTypes_31 : decode cX10_spoilingTypes 31 = .ok (.getfield 14, 3) := by decide +kernel
theorem dX10_spoilingTypes_34 : decode cX10_spoilingTypes 34 = .ok (.invokevirtual 183, 3) := by decide +kernel
theorem dX10_spoilingTypes_37 : decode cX10_spoilingTypes 37 = .ok (.iconst 1, 1) := by decide +kernel
theorem dX10_spoilingTypes_38 : decode cX10_spoilingTypes 38 = .ok (.iload_n 2, 1) := by decide +kernel
theorem dX10_spoilingTypes_39 : decode cX10_spoilingTypes 39 = .ok (.ishl, 1) := by decide +kernel
theorem dX10_spoilingTypes_40 : decode cX10_spoilingTypes 40 = .ok (.iconst (-1), 1) := by decide +kernel
theorem dX10_spoilingTypes_41 : decode cX10_spoilingTypes 41 = .ok (.ixor, 1) := by decide +kernel
theorem dX10_spoilingTypes_42 : decode cX10_spoilingTypes 42 = .ok (.iand, 1) := by decide +kernel
theorem dX10_spoilingTypes_43 : decode cX10_spoilingTypes 43 = .ok (.iconst (-1), 1) := by decide +kernel
theorem dX10_spoilingTypes_44 : decode cX10_spoilingTypes 44 = .ok (.iconst (-1), 1) := by decide +kernel
theorem dX10_spoilingTypes_45 : decode cX10_spoilingTypes 45 = .ok (.invokevirtual 186, 3) := by decide +kernel
theorem dX10_spoilingTypes_48 : decode cX10_spoilingTypes 48 = .ok (.aload_n 0, 1) := by decide +kernel
theorem dX10_spoilingTypes_49 : decode cX10_spoilingTypes 49 = .ok (.getfield 31, 3) := by decide +kernel
theorem dX10_spoilingTypes_52 : decode cX10_spoilingTypes 52 = .ok (.invokevirtual 174, 3) := by decide +kernel
theorem dX10_spoilingTypes_55 : decode cX10_spoilingTypes 55 = .ok (.ifCond .ne 9, 3) := by decide +kernel
theorem dX10_spoilingTypes_58 : decode cX10_spoilingTypes 58 = .ok (.iload_n 1, 1) := by decide +kernel
theorem dX10_spoilingTypes_59 : decode cX10_spoilingTypes 59 = .ok (.iconst 1, 1) := by decide +kernel
theorem dX10_spoilingTypes_60 : decode cX10_spoilingTypes 60 = .ok (.iload_n 2, 1) := by decide +kernel
theorem dX10_spoilingTypes_61 : decode cX10_spoilingTypes 61 = .ok (.ishl, 1) := by decide +kernel
theorem dX10_spoilingTypes_62 : decode cX10_spoilingTypes 62 = .ok (.ior, 1) := by decide +kernel
theorem dX10_spoilingTypes_63 : decode cX10_spoilingTypes 63 = .ok (.istore_n 1, 1) := by decide +kernel
theorem dX10_spoilingTypes_64 : decode cX10_spoilingTypes 64 = .ok (.iinc 2 1, 3) := by decide +kernel
theorem dX10_spoilingTypes_67 : decode cX10_spoilingTypes 67 = .ok (.goto (-63), 3) := by decide +kernel
theorem dX10_spoilingTypes_70 : decode cX10_spoilingTypes 70 = .ok (.iload_n 1, 1) := by decide +kernel
theorem dX10_spoilingTypes_71 : decode cX10_spoilingTypes 71 = .ok (.ireturn, 1) := by decide +kernel
set_option maxRecDepth 20000 in
theorem ggX10_gaps_X10_setRow : GoodIn wsX10_gaps wsX10_setRow := goodIn_r _ [5, 6, 7, 8, 9, 10, 11, 12, 13, 14, 30, 31, 32, 33, 34, 35, 36, 37, 38, 39, 40, 41, 42, 43, 44, 45, 46, 47, 48, 49, 50, 51, 52] (by decide +kernel) (by decide +kernel)
set_option maxRecDepth 20000 in
theorem gX10_gaps_X10_setRow : GoodIn wsX10_gaps (wsV RX10 230 RX10 yX10_setRow wsX10_setRow) := goodIn_app (goodIn_of _ (by decide +kernel)) ggX10_gaps_X10_setRow
set_option maxRecDepth 20000 in
theorem ggX10_gaps_X10_rowGaps : GoodIn wsX10_gaps wsX10_rowGaps := goodIn_r _ [18, 6, 19, 20, 21, 22, 4, 23, 7, 8, 24, 25, 26, 12, 27, 28, 29, 10, 11, 13, 14, 30, 31, 32, 33, 34, 35, 36, 37, 38, 39, 40, 41, 42, 43, 44, 45, 46, 47, 48, 49, 50, 51, 52] (by decide +kernel) (by decide +kernel)
set_option maxRecDepth 20000 in
theorem gX10_gaps_X10_rowGaps : GoodIn wsX10_gaps (wsV RX10 233 RX10 yX10_rowGaps wsX10_rowGaps) := goodIn_app (goodIn_of _ (by decide +kernel)) ggX10_gaps_X10_rowGaps
theorem dX10_gaps_0 : decode cX10_gaps 0 = .ok (.aload_n 0, 1) := by decide +kernel
theorem dX10_gaps_1 : decode cX10_gaps 1 = .ok (.iload_n 1, 1) := by decide +kernel
theorem dX10_gaps_2 : decode cX10_gaps 2 = .ok (.invokevirtual 230, 3) := by decide +kernel
theorem dX10_gaps_5 : decode cX10_gaps 5 = .ok (.ifCond .eq 10, 3) := by decide +kernel
theorem dX10_gaps_8 : decode cX10_gaps 8 = .ok (.aload_n 0, 1) := by decide +kernel
theorem dX10_gaps_9 : decode cX10_gaps 9 = .ok (.invokevirtual 233, 3) := by decide +kernel
theorem dX10_gaps_12 : decode cX10_gaps 12 = .ok (.goto 5, 3) := by decide +kernel
theorem dX10_gaps_15 : decode cX10_gaps 15 = .ok (.bipush (-2), 2) := by decide +kernel
theorem dX10_gaps_17 : decode cX10_gaps 17 = .ok (.ireturn, 1) := by decide +kernel
set_option maxRecDepth 20000 in
theorem ggX10_runs_X10_setRow : GoodIn wsX10_runs wsX10_setRow := goodIn_r _ [7, 1, 8, 9, 10, 11, 12, 13, 14, 15, 26, 27, 28, 29, 30, 31, 32, 33, 34, 35, 36, 37, 38, 39, 40, 41, 42, 43, 44, 45, 46, 47, 48] (by decide +kernel) (by decide +kernel)
set_option maxRecDepth 20000 in
theorem gX10_runs_X10_setRow : GoodIn wsX10_runs (wsV RX10 230 RX10 yX10_setRow wsX10_setRow) := goodIn_app (goodIn_of _ (by decide +kernel)) ggX10_runs_X10_setRow
set_option maxRecDepth 20000 in
theorem ggX10_runs_X10_rowGapsOf : GoodIn wsX10_runs wsX10_rowGapsOf := goodIn_r _ [19, 1, 8, 9, 20, 21, 22, 13, 23, 24, 25, 11, 12, 14, 15, 26, 27, 28, 29, 30, 31, 32, 33, 34, 35, 36, 37, 38, 39, 40, 41, 42, 43, 44, 45, 46, 47, 48] (by decide +kernel) (by decide +kernel)
set_option maxRecDepth 20000 in
theorem gX10_runs_X10_rowGapsOf : GoodIn wsX10_runs (wsV RX10 236 RX10 yX10_rowGapsOf wsX10_rowGapsOf) := goodIn_app (goodIn_of _ (by decide +kernel)) ggX10_runs_X10_rowGapsOf
theorem dX10_runs_0 : decode cX10_runs 0 = .ok (.aload_n 0, 1) := by decide +kernel
theorem dX10_runs_1 : decode cX10_runs 1 = .ok (.iload_n 1, 1) := by decide +kernel
theorem dX10_runs_2 : decode cX10_runs 2 = .ok (.invokevirtual 230, 3) := by decide +kernel
theorem dX10_runs_5 : decode cX10_runs 5 = .ok (.ifCond .ne 6, 3) := by decide +kernel
theorem dX10_runs_8 : decode cX10_runs 8 = .ok (.bipush (-2), 2) := by decide +kernel
theorem dX10_runs_10 : decode cX10_runs 10 = .ok (.ireturn, 1) := by decide +kernel
theorem dX10_runs_11 : decode cX10_runs 11 = .ok (.iconst 0, 1) := by decide +kernel
theorem dX10_runs_12 : decode cX10_runs 12 = .ok (.istore_n 2, 1) := by decide +kernel
theorem dX10_runs_13 : decode cX10_runs 13 = .ok (.iconst 0, 1) := by decide +kernel
theorem dX10_runs_14 : decode cX10_runs 14 = .ok (.istore_n 3, 1) := by decide +kernel
theorem dX10_runs_15 : decode cX10_runs 15 = .ok (.iload_n 3, 1) := by decide +kernel
theorem dX10_runs_16 : decode cX10_runs 16 = .ok (.aload_n 0, 1) := by decide +kernel
theorem dX10_runs_17 : decode cX10_runs 17 = .ok (.getfield 14, 3) := by decide +kernel
theorem dX10_runs_20 : decode cX10_runs 20 = .ok (.getfield 144, 3) := by decide +kernel
theorem dX10_runs_23 : decode cX10_runs 23 = .ok (.if_icmp .ge 23, 3) := by decide +kernel
theorem dX10_runs_26 : decode cX10_runs 26 = .ok (.aload_n 0, 1) := by decide +kernel
theorem dX10_runs_27 : decode cX10_runs 27 = .ok (.iload_n 3, 1) := by decide +kernel
theorem dX10_runs_28 : decode cX10_runs 28 = .ok (.invokevirtual 236, 3) := by decide +kernel
theorem dX10_runs_31 : decode cX10_runs 31 = .ok (.ifCond .ne 9, 3) := by decide +kernel
theorem dX10_runs_34 : decode cX10_runs 34 = .ok (.iload_n 2, 1) := by decide +kernel
theorem dX10_runs_35 : decode cX10_runs 35 = .ok (.iconst 1, 1) := by decide +kernel
theorem dX10_runs_36 : decode cX10_runs 36 = .ok (.iload_n 3, 1) := by decide +kernel
theorem dX10_runs_37 : decode cX10_runs 37 = .ok (.ishl, 1) := by decide +kernel
theorem dX10_runs_38 : decode cX10_runs 38 = .ok (.ior, 1) := by decide +kernel
theorem dX10_runs_39 : decode cX10_runs 39 = .ok (.istore_n 2, 1) := by decide +kernel
theorem dX10_runs_40 : decode cX10_runs 40 = .ok (.iinc 3 1, 3) := by decide +kernel
theorem dX10_runs_43 : decode cX10_runs 43 = .ok (.goto (-28), 3) := by decide +kernel
theorem dX10_runs_46 : decode cX10_runs 46 = .ok (.iload_n 2, 1) := by decide +kernel
theorem dX10_runs_47 : decode cX10_runs 47 = .ok (.ireturn, 1) := by decide +kernel
set_option maxRecDepth 20000 in
theorem ggX10_kinship_X10_setRow : GoodIn wsX10_kinship wsX10_setRow := goodIn_r _ [8, 1, 2, 3, 9, 10, 11, 12, 13, 14, 28, 29, 30, 31, 32, 33, 34, 35, 36, 37, 38, 39, 40, 41, 42, 43, 44, 45, 46, 47, 48, 49, 50] (by decide +kernel) (by decide +kernel)
set_option maxRecDepth 20000 in
theorem gX10_kinship_X10_setRow : GoodIn wsX10_kinship (wsV RX10 230 RX10 yX10_setRow wsX10_setRow) := goodIn_app (goodIn_of _ (by decide +kernel)) ggX10_kinship_X10_setRow
set_option maxRecDepth 20000 in
theorem ggX10_kinship_X5_common : GoodIn wsX10_kinship wsX5_common := goodIn_r _ [18, 19, 20, 10, 11, 12, 13, 14, 21, 22, 23, 24, 25, 26, 27, 46, 47, 48, 49, 50] (by decide +kernel) (by decide +kernel)
set_option maxRecDepth 20000 in
theorem gX10_kinship_X5_common : GoodIn wsX10_kinship (wsV RX10 239 RX5 yX5_common wsX5_common) := goodIn_app (goodIn_of _ (by decide +kernel)) ggX10_kinship_X5_common
theorem dX10_kinship_0 : decode cX10_kinship 0 = .ok (.aload_n 0, 1) := by decide +kernel
theorem dX10_kinship_1 : decode cX10_kinship 1 = .ok (.iload_n 1, 1) := by decide +kernel
theorem dX10_kinship_2 : decode cX10_kinship 2 = .ok (.invokevirtual 230, 3) := by decide +kernel
theorem dX10_kinship_5 : decode cX10_kinship 5 = .ok (.ifCond .ne 6, 3) := by decide +kernel
theorem dX10_kinship_8 : decode cX10_kinship 8 = .ok (.bipush (-2), 2) := by decide +kernel
theorem dX10_kinship_10 : decode cX10_kinship 10 = .ok (.ireturn, 1) := by decide +kernel
theorem dX10_kinship_11 : decode cX10_kinship 11 = .ok (.iconst 0, 1) := by decide +kernel
theorem dX10_kinship_12 : decode cX10_kinship 12 = .ok (.istore_n 2, 1) := by decide +kernel
theorem dX10_kinship_13 : decode cX10_kinship 13 = .ok (.iconst 1, 1) := by decide +kernel
theorem dX10_kinship_14 : decode cX10_kinship 14 = .ok (.istore_n 3, 1) := by decide +kernel
theorem dX10_kinship_15 : decode cX10_kinship 15 = .ok (.iload_n 3, 1) := by decide +kernel
theorem dX10_kinship_16 : decode cX10_kinship 16 = .ok (.aload_n 0, 1) := by decide +kernel
theorem dX10_kinship_17 : decode cX10_kinship 17 = .ok (.getfield 14, 3) := by decide +kernel
theorem dX10_kinship_20 : decode cX10_kinship 20 = .ok (.getfield 140, 3) := by decide +kernel
theorem dX10_kinship_23 : decode cX10_kinship 23 = .ok (.if_icmp .ge 33, 3) := by decide +kernel
theorem dX10_kinship_26 : decode cX10_kinship 26 = .ok (.iload_n 2, 1) := by decide +kernel
theorem dX10_kinship_27 : decode cX10_kinship 27 = .ok (.aload_n 0, 1) := by decide +kernel
theorem dX10_kinship_28 : decode cX10_kinship 28 = .ok (.getfield 14, 3) := by decide +kernel
theorem dX10_kinship_31 : decode cX10_kinship 31 = .ok (.aload_n 0, 1) := by decide +kernel
theorem dX10_kinship_32 : decode cX10_kinship 32 = .ok (.getfield 81, 3) := by decide +kernel
theorem dX10_kinship_35 : decode cX10_kinship 35 = .ok (.iload_n 3, 1) := by decide +kernel
theorem dX10_kinship_36 : decode cX10_kinship 36 = .ok (.iconst 1, 1) := by decide +kernel
theorem dX10_kinship_37 : decode cX10_kinship 37 = .ok (.isub, 1) := by decide +kernel
theorem dX10_kinship_38 : decode cX10_kinship 38 = .ok (.iaload, 1) := by decide +kernel
theorem dX10_kinship_39 : decode cX10_kinship 39 = .ok (.aload_n 0, 1) := by decide +kernel
theorem dX10_kinship_40 : decode cX10_kinship 40 = .ok (.getfield 81, 3) := by decide +kernel
theorem dX10_kinship_43 : decode cX10_kinship 43 = .ok (.iload_n 3, 1) := by decide +kernel
theorem dX10_kinship_44 : decode cX10_kinship 44 = .ok (.iaload, 1) := by decide +kernel
theorem dX10_kinship_45 : decode cX10_kinship 45 = .ok (.invokevirtual 239, 3) := by decide +kernel
theorem dX10_kinship_48 : decode cX10_kinship 48 = .ok (.iadd, 1) := by decide +kernel
theorem dX10_kinship_49 : decode cX10_kinship 49 = .ok (.istore_n 2, 1) := by decide +kernel
theorem dX10_kinship_50 : decode cX10_kinship 50 = .ok (.iinc 3 1, 3) := by decide +kernel
theorem dX10_kinship_53 : decode cX10_kinship 53 = .ok (.goto (-38), 3) := by decide +kernel
theorem dX10_kinship_56 : decode cX10_kinship 56 = .ok (.iload_n 2, 1) := by decide +kernel
theorem dX10_kinship_57 : decode cX10_kinship 57 = .ok (.ireturn, 1) := by decide +kernel
set_option maxRecDepth 20000 in
theorem ggX10_kin_X0_make : GoodIn wsX10_kin wsX0_make := goodIn_r _ [8, 9, 10, 11, 12, 13, 14, 15, 16, 17, 18, 19, 20, 21, 22, 23, 24, 7, 25, 26, 27, 28, 29, 30, 31, 32, 33, 34, 35, 36, 37, 38, 39, 40, 41, 66, 67, 68, 69, 70, 64, 65] (by decide +kernel) (by decide +kernel)
set_option maxRecDepth 20000 in
theorem gX10_kin_X0_make : GoodIn wsX10_kin (wsV RX10 242 RX0 yX0_make wsX0_make) := goodIn_app (goodIn_of _ (by decide +kernel)) ggX10_kin_X0_make
set_option maxRecDepth 20000 in
theorem ggX10_kin_X0_firstOrder : GoodIn wsX10_kin wsX0_firstOrder := goodIn_r _ [45, 11, 9, 10, 26, 27, 28, 19, 29, 30, 31, 32, 33, 34, 21, 35, 36, 37, 38, 39, 40, 41, 64, 65, 66, 67, 68, 69, 70] (by decide +kernel) (by decide +kernel)
set_option maxRecDepth 20000 in
theorem gX10_kin_X0_firstOrder : GoodIn wsX10_kin (wsV RX10 248 RX0 yX0_firstOrder wsX0_firstOrder) := goodIn_app (goodIn_of _ (by decide +kernel)) ggX10_kin_X0_firstOrder
theorem dX10_kin_0 : decode cX10_kin 0 = .ok (.iload_n 1, 1) := by decide +kernel
theorem dX10_kin_1 : decode cX10_kin 1 = .ok (.ifCond .eq 11, 3) := by decide +kernel
theorem dX10_kin_4 : decode cX10_kin 4 = .ok (.iload_n 1, 1) := by decide +kernel
theorem dX10_kin_5 : decode cX10_kin 5 = .ok (.iconst 1, 1) := by decide +kernel
theorem dX10_kin_6 : decode cX10_kin 6 = .ok (.if_icmp .eq 6, 3) := by decide +kernel
theorem dX10_kin_9 : decode cX10_kin 9 = .ok (.bipush (-2), 2) := by decide +kernel
theorem dX10_kin_11 : decode cX10_kin 11 = .ok (.ireturn, 1) := by decide +kernel
theorem dX10_kin_12 : decode cX10_kin 12 = .ok (.aload_n 0, 1) := by decide +kernel
theorem dX10_kin_13 : decode cX10_kin 13 = .ok (.getfield 44, 3) := by decide +kernel
theorem dX10_kin_16 : decode cX10_kin 16 = .ok (.aload_n 0, 1) := by decide +kernel
theorem dX10_kin_17 : decode cX10_kin 17 = .ok (.getfield 14, 3) := by decide +kernel
theorem dX10_kin_20 : decode cX10_kin 20 = .ok (.invokevirtual 242, 3) := by decide +kernel
theorem dX10_kin_23 : decode cX10_kin 23 = .ok (.iload_n 1, 1) := by decide +kernel
theorem dX10_kin_24 : decode cX10_kin 24 = .ok (.ifCond .ne 13, 3) := by decide +kernel
theorem dX10_kin_27 : decode cX10_kin 27 = .ok (.aload_n 0, 1) := by decide +kernel
theorem dX10_kin_28 : decode cX10_kin 28 = .ok (.getfield 44, 3) := by decide +kernel
theorem dX10_kin_31 : decode cX10_kin 31 = .ok (.getfield 245, 3) := by decide +kernel
theorem dX10_kin_34 : decode cX10_kin 34 = .ok (.goto 14, 3) := by decide +kernel
theorem dX10_kin_37 : decode cX10_kin 37 = .ok (.aload_n 0, 1) := by decide +kernel
theorem dX10_kin_38 : decode cX10_kin 38 = .ok (.getfield 44, 3) := by decide +kernel
theorem dX10_kin_41 : decode cX10_kin 41 = .ok (.aload_n 0, 1) := by decide +kernel
theorem dX10_kin_42 : decode cX10_kin 42 = .ok (.getfield 14, 3) := by decide +kernel
theorem dX10_kin_45 : decode cX10_kin 45 = .ok (.invokevirtual 248, 3) := by decide +kernel
theorem dX10_kin_48 : decode cX10_kin 48 = .ok (.ireturn, 1) := by decide +kernel
set_option maxRecDepth 20000 in
theorem ggX10_shared_X5_holds : GoodIn wsX10_shared wsX5_holds := goodIn_r _ [6, 7, 39, 40, 41, 42, 43] (by decide +kernel) (by decide +kernel)
set_option maxRecDepth 20000 in
theorem gX10_shared_X5_holds : GoodIn wsX10_shared (wsV RX10 94 RX5 yX5_holds wsX5_holds) := goodIn_app (goodIn_of _ (by decide +kernel)) ggX10_shared_X5_holds
set_option maxRecDepth 20000 in
theorem ggX10_shared_X5_common : GoodIn wsX10_shared wsX5_common := goodIn_r _ [11, 12, 13, 3, 4, 5, 6, 7, 14, 15, 16, 17, 18, 19, 20, 39, 40, 41, 42, 43] (by decide +kernel) (by decide +kernel)
set_option maxRecDepth 20000 in
theorem gX10_shared_X5_common : GoodIn wsX10_shared (wsV RX10 239 RX5 yX5_common wsX5_common) := goodIn_app (goodIn_of _ (by decide +kernel)) ggX10_shared_X5_common
theorem dX10_shared_0 : decode cX10_shared 0 = .ok (.aload_n 0, 1) := by decide +kernel
theorem dX10_shared_1 : decode cX10_shared 1 = .ok (.getfield 14, 3) := by decide +kernel
theorem dX10_shared_4 : decode cX10_shared 4 = .ok (.iload_n 1, 1) := by decide +kernel
theorem dX10_shared_5 : decode cX10_shared 5 = .ok (.invokevirtual 94, 3) := by decide +kernel
theorem dX10_shared_8 : decode cX10_shared 8 = .ok (.ifCond .eq 26, 3) := by decide +kernel
theorem dX10_shared_11 : decode cX10_shared 11 = .ok (.aload_n 0, 1) := by decide +kernel
theorem dX10_shared_12 : decode cX10_shared 12 = .ok (.getfield 14, 3) := by decide +kernel
theorem dX10_shared_15 : decode cX10_shared 15 = .ok (.iload_n 2, 1) := by decide +kernel
theorem dX10_shared_16 : decode cX10_shared 16 = .ok (.invokevirtual 94, 3) := by decide +kernel
theorem dX10_shared_19 : decode cX10_shared 19 = .ok (.ifCond .eq 15, 3) := by decide +kernel
theorem dX10_shared_22 : decode cX10_shared 22 = .ok (.aload_n 0, 1) := by decide +kernel
theorem dX10_shared_23 : decode cX10_shared 23 = .ok (.getfield 14, 3) := by decide +kernel
theorem dX10_shared_26 : decode cX10_shared 26 = .ok (.iload_n 1, 1) := by decide +kernel
theorem dX10_shared_27 : decode cX10_shared 27 = .ok (.iload_n 2, 1) := by decide +kernel
theorem dX10_shared_28 : decode cX10_shared 28 = .ok (.invokevirtual 239, 3) := by decide +kernel
theorem dX10_shared_31 : decode cX10_shared 31 = .ok (.goto 4, 3) := by decide +kernel
theorem dX10_shared_34 : decode cX10_shared 34 = .ok (.iconst (-1), 1) := by decide +kernel
theorem dX10_shared_35 : decode cX10_shared 35 = .ok (.ireturn, 1) := by decide +kernel
set_option maxRecDepth 20000 in
theorem ggX10_chain_X5_holds : GoodIn wsX10_chain wsX5_holds := goodIn_r _ [7, 8, 49, 50, 51, 52, 53] (by decide +kernel) (by decide +kernel)
set_option maxRecDepth 20000 in
theorem gX10_chain_X5_holds : GoodIn wsX10_chain (wsV RX10 94 RX5 yX5_holds wsX5_holds) := goodIn_app (goodIn_of _ (by decide +kernel)) ggX10_chain_X5_holds
set_option maxRecDepth 20000 in
theorem ggX10_chain_X5_nearest : GoodIn wsX10_chain wsX5_nearest := goodIn_r _ [12, 8, 13, 14, 15, 6, 16, 17, 18, 19, 20, 21, 22, 23, 4, 5, 7, 24, 25, 26, 27, 28, 29, 30, 49, 50, 51, 52, 53] (by decide +kernel) (by decide +kernel)
set_option maxRecDepth 20000 in
theorem gX10_chain_X5_nearest : GoodIn wsX10_chain (wsV RX10 252 RX5 yX5_nearest wsX5_nearest) := goodIn_app (goodIn_of _ (by decide +kernel)) ggX10_chain_X5_nearest
theorem dX10_chain_0 : decode cX10_chain 0 = .ok (.aload_n 0, 1) := by decide +kernel
theorem dX10_chain_1 : decode cX10_chain 1 = .ok (.getfield 14, 3) := by decide +kernel
theorem dX10_chain_4 : decode cX10_chain 4 = .ok (.iload_n 1, 1) := by decide +kernel
theorem dX10_chain_5 : decode cX10_chain 5 = .ok (.invokevirtual 94, 3) := by decide +kernel
theorem dX10_chain_8 : decode cX10_chain 8 = .ok (.ifCond .ne 5, 3) := by decide +kernel
theorem dX10_chain_11 : decode cX10_chain 11 = .ok (.iconst (-1), 1) := by decide +kernel
theorem dX10_chain_12 : decode cX10_chain 12 = .ok (.ireturn, 1) := by decide +kernel
theorem dX10_chain_13 : decode cX10_chain 13 = .ok (.iload_n 1, 1) := by decide +kernel
theorem dX10_chain_14 : decode cX10_chain 14 = .ok (.istore_n 2, 1) := by decide +kernel
theorem dX10_chain_15 : decode cX10_chain 15 = .ok (.iconst 1, 1) := by decide +kernel
theorem dX10_chain_16 : decode cX10_chain 16 = .ok (.iload_n 1, 1) := by decide +kernel
theorem dX10_chain_17 : decode cX10_chain 17 = .ok (.ishl, 1) := by decide +kernel
theorem dX10_chain_18 : decode cX10_chain 18 = .ok (.istore_n 3, 1) := by decide +kernel
theorem dX10_chain_19 : decode cX10_chain 19 = .ok (.iload_n 1, 1) := by decide +kernel
theorem dX10_chain_20 : decode cX10_chain 20 = .ok (.iconst 1, 1) := by decide +kernel
theorem dX10_chain_21 : decode cX10_chain 21 = .ok (.iadd, 1) := by decide +kernel
theorem dX10_chain_22 : decode cX10_chain 22 = .ok (.istore 4, 2) := by decide +kernel
theorem dX10_chain_24 : decode cX10_chain 24 = .ok (.iconst 1, 1) := by decide +kernel
theorem dX10_chain_25 : decode cX10_chain 25 = .ok (.istore 5, 2) := by decide +kernel
theorem dX10_chain_27 : decode cX10_chain 27 = .ok (.iload 5, 2) := by decide +kernel
theorem dX10_chain_29 : decode cX10_chain 29 = .ok (.aload_n 0, 1) := by decide +kernel
theorem dX10_chain_30 : decode cX10_chain 30 = .ok (.getfield 14, 3) := by decide +kernel
theorem dX10_chain_33 : decode cX10_chain 33 = .ok (.getfield 140, 3) := by decide +kernel
theorem dX10_chain_36 : decode cX10_chain 36 = .ok (.if_icmp .ge 36, 3) := by decide +kernel
theorem dX10_chain_39 : decode cX10_chain 39 = .ok (.aload_n 0, 1) := by decide +kernel
theorem dX10_chain_40 : decode cX10_chain 40 = .ok (.getfield 14, 3) := by decide +kernel
theorem dX10_chain_43 : decode cX10_chain 43 = .ok (.iload_n 2, 1) := by decide +kernel
theorem dX10_chain_44 : decode cX10_chain 44 = .ok (.iload_n 3, 1) := by decide +kernel
theorem dX10_chain_45 : decode cX10_chain 45 = .ok (.invokevirtual 252, 3) := by decide +kernel
theorem dX10_chain_48 : decode cX10_chain 48 = .ok (.istore_n 2, 1) := by decide +kernel
theorem dX10_chain_49 : decode cX10_chain 49 = .ok (.iload_n 3, 1) := by decide +kernel
theorem dX10_chain_50 : decode cX10_chain 50 = .ok (.iconst 1, 1) := by decide +kernel
theorem dX10_chain_51 : decode cX10_chain 51 = .ok (.iload_n 2, 1) := by decide +kernel
theorem dX10_chain_52 : decode cX10_chain 52 = .ok (.ishl, 1) := by decide +kernel
theorem dX10_chain_53 : decode cX10_chain 53 = .ok (.ior, 1) := by decide +kernel
theorem dX10_chain_54 : decode cX10_chain 54 = .ok (.istore_n 3, 1) := by decide +kernel
theorem dX10_chain_55 : decode cX10_chain 55 = .ok (.iload 4, 2) := by decide +kernel
theorem dX10_chain_57 : decode cX10_chain 57 = .ok (.bipush 10, 2) := by decide +kernel
theorem dX10_chain_59 : decode cX10_chain 59 = .ok (.imul, 1) := by decide +kernel
theorem dX10_chain_60 : decode cX10_chain 60 = .ok (.iload_n 2, 1) := by decide +kernel
theorem dX10_chain_61 : decode cX10_chain 61 = .ok (.iadd, 1) := by decide +kernel
theorem dX10_chain_62 : decode cX10_chain 62 = .ok (.iconst 1, 1) := by decide +kernel
theorem dX10_chain_63 : decode cX10_chain 63 = .ok (.iadd, 1) := by decide +kernel
theorem dX10_chain_64 : decode cX10_chain 64 = .ok (.istore 4, 2) := by decide +kernel
theorem dX10_chain_66 : decode cX10_chain 66 = .ok (.iinc 5 1, 3) := by decide +kernel
theorem dX10_chain_69 : decode cX10_chain 69 = .ok (.goto (-42), 3) := by decide +kernel
theorem dX10_chain_72 : decode cX10_chain 72 = .ok (.iload 4, 2) := by decide +kernel
theorem dX10_chain_74 : decode cX10_chain 74 = .ok (.ireturn, 1) := by decide +kernel
set_option maxRecDepth 20000 in
theorem ggX10_walk_X5_foremost : GoodIn wsX10_walk wsX5_foremost := goodIn_r _ [7, 8, 9, 10, 11, 6, 12, 13, 14, 15, 16, 17, 18, 19, 20, 21, 22, 23, 24, 25, 26, 27, 28, 29, 30, 31, 32, 33, 52, 53, 54, 55, 56] (by decide +kernel) (by decide +kernel)
set_option maxRecDepth 20000 in
theorem gX10_walk_X5_foremost : GoodIn wsX10_walk (wsV RX10 255 RX5 yX5_foremost wsX5_foremost) := goodIn_app (goodIn_of _ (by decide +kernel)) ggX10_walk_X5_foremost
theorem dX10_walk_0 : decode cX10_walk 0 = .ok (.iload_n 1, 1) := by decide +kernel
theorem dX10_walk_1 : decode cX10_walk 1 = .ok (.ifCond .lt 8, 3) := by decide +kernel
theorem dX10_walk_4 : decode cX10_walk 4 = .ok (.iload_n 1, 1) := by decide +kernel
theorem dX10_walk_5 : decode cX10_walk 5 = .ok (.iconst 3, 1) := by decide +kernel
theorem dX10_walk_6 : decode cX10_walk 6 = .ok (.if_icmp .le 6, 3) := by decide +kernel
theorem dX10_walk_9 : decode cX10_walk 9 = .ok (.bipush (-2), 2) := by decide +kernel
theorem dX10_walk_11 : decode cX10_walk 11 = .ok (.ireturn, 1) := by decide +kernel
theorem dX10_walk_12 : decode cX10_walk 12 = .ok (.iconst 0, 1) := by decide +kernel
theorem dX10_walk_13 : decode cX10_walk 13 = .ok (.istore_n 2, 1) := by decide +kernel
theorem dX10_walk_14 : decode cX10_walk 14 = .ok (.iconst 0, 1) := by decide +kernel
theorem dX10_walk_15 : decode cX10_walk 15 = .ok (.istore_n 3, 1) := by decide +kernel
theorem dX10_walk_16 : decode cX10_walk 16 = .ok (.iconst 0, 1) := by decide +kernel
theorem dX10_walk_17 : decode cX10_walk 17 = .ok (.istore 4, 2) := by decide +kernel
theorem dX10_walk_19 : decode cX10_walk 19 = .ok (.iload 4, 2) := by decide +kernel
theorem dX10_walk_21 : decode cX10_walk 21 = .ok (.aload_n 0, 1) := by decide +kernel
theorem dX10_walk_22 : decode cX10_walk 22 = .ok (.getfield 14, 3) := by decide +kernel
theorem dX10_walk_25 : decode cX10_walk 25 = .ok (.getfield 140, 3) := by decide +kernel
theorem dX10_walk_28 : decode cX10_walk 28 = .ok (.if_icmp .ge 37, 3) := by decide +kernel
theorem dX10_walk_31 : decode cX10_walk 31 = .ok (.aload_n 0, 1) := by decide +kernel
theorem dX10_walk_32 : decode cX10_walk 32 = .ok (.getfield 14, 3) := by decide +kernel
theorem dX10_walk_35 : decode cX10_walk 35 = .ok (.iload_n 1, 1) := by decide +kernel
theorem dX10_walk_36 : decode cX10_walk 36 = .ok (.iload_n 2, 1) := by decide +kernel
theorem dX10_walk_37 : decode cX10_walk 37 = .ok (.invokevirtual 255, 3) := by decide +kernel
theorem dX10_walk_40 : decode cX10_walk 40 = .ok (.istore 5, 2) := by decide +kernel
theorem dX10_walk_42 : decode cX10_walk 42 = .ok (.iload_n 2, 1) := by decide +kernel
theorem dX10_walk_43 : decode cX10_walk 43 = .ok (.iconst 1, 1) := by decide +kernel
theorem dX10_walk_44 : decode cX10_walk 44 = .ok (.iload 5, 2) := by decide +kernel
theorem dX10_walk_46 : decode cX10_walk 46 = .ok (.ishl, 1) := by decide +kernel
theorem dX10_walk_47 : decode cX10_walk 47 = .ok (.ior, 1) := by decide +kernel
theorem dX10_walk_48 : decode cX10_walk 48 = .ok (.istore_n 2, 1) := by decide +kernel
theorem dX10_walk_49 : decode cX10_walk 49 = .ok (.iload_n 3, 1) := by decide +kernel
theorem dX10_walk_50 : decode cX10_walk 50 = .ok (.bipush 10, 2) := by decide +kernel
theorem dX10_walk_52 : decode cX10_walk 52 = .ok (.imul, 1) := by decide +kernel
theorem dX10_walk_53 : decode cX10_walk 53 = .ok (.iload 5, 2) := by decide +kernel
theorem dX10_walk_55 : decode cX10_walk 55 = .ok (.iadd, 1) := by decide +kernel
theorem dX10_walk_56 : decode cX10_walk 56 = .ok (.iconst 1, 1) := by decide +kernel
theorem dX10_walk_57 : decode cX10_walk 57 = .ok (.iadd, 1) := by decide +kernel
theorem dX10_walk_58 : decode cX10_walk 58 = .ok (.istore_n 3, 1) := by decide +kernel
theorem dX10_walk_59 : decode cX10_walk 59 = .ok (.iinc 4 1, 3) := by decide +kernel
theorem dX10_walk_62 : decode cX10_walk 62 = .ok (.goto (-43), 3) := by decide +kernel
theorem dX10_walk_65 : decode cX10_walk 65 = .ok (.iload_n 3, 1) := by decide +kernel
theorem dX10_walk_66 : decode cX10_walk 66 = .ok (.ireturn, 1) := by decide +kernel
set_option maxRecDepth 20000 in
theorem ggX10_turned_X10_setRow : GoodIn wsX10_turned wsX10_setRow := goodIn_r _ [8, 1, 2, 3, 9, 10, 11, 12, 13, 14, 15, 16, 17, 18, 19, 20, 21, 22, 23, 24, 25, 26, 27, 28, 29, 30, 31, 32, 33, 34, 35, 36, 37] (by decide +kernel) (by decide +kernel)
set_option maxRecDepth 20000 in
theorem gX10_turned_X10_setRow : GoodIn wsX10_turned (wsV RX10 230 RX10 yX10_setRow wsX10_setRow) := goodIn_app (goodIn_of _ (by decide +kernel)) ggX10_turned_X10_setRow
theorem dX10_turned_0 : decode cX10_turned 0 = .ok (.aload_n 0, 1) := by decide +kernel
theorem dX10_turned_1 : decode cX10_turned 1 = .ok (.iload_n 1, 1) := by decide +kernel
theorem dX10_turned_2 : decode cX10_turned 2 = .ok (.invokevirtual 230, 3) := by decide +kernel
theorem dX10_turned_5 : decode cX10_turned 5 = .ok (.ifCond .ne 6, 3) := by decide +kernel
theorem dX10_turned_8 : decode cX10_turned 8 = .ok (.bipush (-2), 2) := by decide +kernel
theorem dX10_turned_10 : decode cX10_turned 10 = .ok (.ireturn, 1) := by decide +kernel
theorem dX10_turned_11 : decode cX10_turned 11 = .ok (.iconst 0, 1) := by decide +kernel
theorem dX10_turned_12 : decode cX10_turned 12 = .ok (.istore_n 2, 1) := by decide +kernel
theorem dX10_turned_13 : decode cX10_turned 13 = .ok (.aload_n 0, 1) := by decide +kernel
theorem dX10_turned_14 : decode cX10_turned 14 = .ok (.getfield 14, 3) := by decide +kernel
theorem dX10_turned_17 : decode cX10_turned 17 = .ok (.getfield 140, 3) := by decide +kernel
theorem dX10_turned_20 : decode cX10_turned 20 = .ok (.iconst 1, 1) := by decide +kernel
theorem dX10_turned_21 : decode cX10_turned 21 = .ok (.isub, 1) := by decide +kernel
theorem dX10_turned_22 : decode cX10_turned 22 = .ok (.istore_n 3, 1) := by decide +kernel
theorem dX10_turned_23 : decode cX10_turned 23 = .ok (.iload_n 3, 1) := by decide +kernel
theorem dX10_turned_24 : decode cX10_turned 24 = .ok (.ifCond .lt 23, 3) := by decide +kernel
theorem dX10_turned_27 : decode cX10_turned 27 = .ok (.iload_n 2, 1) := by decide +kernel
theorem dX10_turned_28 : decode cX10_turned 28 = .ok (.bipush 10, 2) := by decide +kernel
theorem dX10_turned_30 : decode cX10_turned 30 = .ok (.imul, 1) := by decide +kernel
theorem dX10_turned_31 : decode cX10_turned 31 = .ok (.aload_n 0, 1) := by decide +kernel
theorem dX10_turned_32 : decode cX10_turned 32 = .ok (.getfield 81, 3) := by decide +kernel
theorem dX10_turned_35 : decode cX10_turned 35 = .ok (.iload_n 3, 1) := by decide +kernel
theorem dX10_turned_36 : decode cX10_turned 36 = .ok (.iaload, 1) := by decide +kernel
theorem dX10_turned_37 : decode cX10_turned 37 = .ok (.iadd, 1) := by decide +kernel
theorem dX10_turned_38 : decode cX10_turned 38 = .ok (.iconst 1, 1) := by decide +kernel
theorem dX10_turned_39 : decode cX10_turned 39 = .ok (.iadd, 1) := by decide +kernel
theorem dX10_turned_40 : decode cX10_turned 40 = .ok (.istore_n 2, 1) := by decide +kernel
theorem dX10_turned_41 : decode cX10_turned 41 = .ok (.iinc 3 (-1), 3) := by decide +kernel
theorem dX10_turned_44 : decode cX10_turned 44 = .ok (.goto (-21), 3) := by decide +kernel
theorem dX10_turned_47 : decode cX10_turned 47 = .ok (.iload_n 2, 1) := by decide +kernel
theorem dX10_turned_48 : decode cX10_turned 48 = .ok (.ireturn, 1) := by decide +kernel
set_option maxRecDepth 20000 in
theorem ggX10_rank_X10_setRow : GoodIn wsX10_rank wsX10_setRow := goodIn_r _ [8, 2, 3, 1, 9, 10, 11, 12, 13, 14, 75, 76, 77, 78, 79, 80, 81, 82, 83, 84, 85, 86, 87, 88, 89, 90, 91, 92, 93, 94, 95, 96, 97] (by decide +kernel) (by decide +kernel)
set_option maxRecDepth 20000 in
theorem gX10_rank_X10_setRow : GoodIn wsX10_rank (wsV RX10 230 RX10 yX10_setRow wsX10_setRow) := goodIn_app (goodIn_of _ (by decide +kernel)) ggX10_rank_X10_setRow
set_option maxRecDepth 20000 in
theorem ggX10_rank_X10_readyPlan : GoodIn wsX10_rank wsX10_readyPlan := goodIn_r _ [18, 19, 20, 2, 21, 22, 23, 12, 24, 14, 25, 26, 27, 28, 29, 30, 31, 32, 33, 34, 35, 36, 37, 38, 39, 40, 41, 10, 11, 13, 42, 43, 44, 45, 46, 47, 48, 49, 50, 51, 52, 53, 54, 55, 56, 57, 58, 59, 60, 61, 62, 63, 64, 65, 66, 75, 76, 77, 78, 79, 80, 81, 82, 83, 84, 85, 86, 87, 88, 89, 90, 91, 92, 93, 94, 95, 96, 97, 98, 99, 100, 101, 102, 103, 104] (by decide +kernel) (by decide +kernel)
set_option maxRecDepth 20000 in
theorem gX10_rank_X10_readyPlan : GoodIn wsX10_rank (wsV RX10 160 RX10 yX10_readyPlan wsX10_readyPlan) := goodIn_app (goodIn_of _ (by decide +kernel)) ggX10_rank_X10_readyPlan
set_option maxRecDepth 20000 in
theorem ggX10_rank_X3_ahead : GoodIn wsX10_rank wsX3_ahead := goodIn_r _ [70, 51, 52, 71, 72, 73, 33, 74, 53, 54, 55, 56, 35, 36, 37, 57, 58, 59, 60, 40, 38, 61, 62, 44, 63, 64, 65, 66, 98, 99, 100, 101, 102, 103, 104] (by decide +kernel) (by decide +kernel)
set_option maxRecDepth 20000 in
theorem gX10_rank_X3_ahead : GoodIn wsX10_rank (wsV RX10 258 RX3 yX3_ahead wsX3_ahead) := goodIn_app (goodIn_of _ (by decide +kernel)) ggX10_rank_X3_ahead
theorem dX10_rank_0 : decode cX10_rank 0 = .ok (.aload_n 0, 1) := by decide +kernel
theorem dX10_rank_1 : decode cX10_rank 1 = .ok (.iload_n 1, 1) := by decide +kernel
theorem dX10_rank_2 : decode cX10_rank 2 = .ok (.invokevirtual 230, 3) := by decide +kernel
theorem dX10_rank_5 : decode cX10_rank 5 = .ok (.ifCond .eq 24, 3) := by decide +kernel
theorem dX10_rank_8 : decode cX10_rank 8 = .ok (.aload_n 0, 1) := by decide +kernel
theorem dX10_rank_9 : decode cX10_rank 9 = .ok (.invokevirtual 160, 3) := by decide +kernel
theorem dX10_rank_12 : decode cX10_rank 12 = .ok (.aload_n 0, 1) := by decide +kernel
theorem dX10_rank_13 : decode cX10_rank 13 = .ok (.getfield 81, 3) := by decide +kernel
theorem dX10_rank_16 : decode cX10_rank 16 = .ok (.aload_n 0, 1) := by decide +kernel
theorem dX10_rank_17 : decode cX10_rank 17 = .ok (.getfield 14, 3) := by decide +kernel
theorem dX10_rank_20 : decode cX10_rank 20 = .ok (.getfield 140, 3) := by decide +kernel
theorem dX10_rank_23 : decode cX10_rank 23 = .ok (.invokevirtual 258, 3) := by decide +kernel
theorem dX10_rank_26 : decode cX10_rank 26 = .ok (.goto 5, 3) := by decide +kernel
theorem dX10_rank_29 : decode cX10_rank 29 = .ok (.bipush (-2), 2) := by decide +kernel
theorem dX10_rank_31 : decode cX10_rank 31 = .ok (.ireturn, 1) := by decide +kernel
set_option maxRecDepth 20000 in
theorem ggX10_swap_X10_setRow : GoodIn wsX10_swap wsX10_setRow := goodIn_r _ [8, 1, 2, 3, 9, 10, 11, 12, 13, 14, 15, 16, 17, 18, 19, 20, 21, 22, 23, 24, 25, 26, 27, 28, 29, 30, 31, 32, 33, 34, 35, 36, 37] (by decide +kernel) (by decide +kernel)
set_option maxRecDepth 20000 in
theorem gX10_swap_X10_setRow : GoodIn wsX10_swap (wsV RX10 230 RX10 yX10_setRow wsX10_setRow) := goodIn_app (goodIn_of _ (by decide +kernel)) ggX10_swap_X10_setRow
set_option maxRecDepth 20000 in
theorem ggX10_swap_X5_holds : GoodIn wsX10_swap wsX5_holds := goodIn_r _ [13, 14, 33, 34, 35, 36, 37] (by decide +kernel) (by decide +kernel)
set_option maxRecDepth 20000 in
theorem gX10_swap_X5_holds : GoodIn wsX10_swap (wsV RX10 94 RX5 yX5_holds wsX5_holds) := goodIn_app (goodIn_of _ (by decide +kernel)) ggX10_swap_X5_holds
theorem dX10_swap_0 : decode cX10_swap 0 = .ok (.aload_n 0, 1) := by decide +kernel
theorem dX10_swap_1 : decode cX10_swap 1 = .ok (.iload_n 1, 1) := by decide +kernel
theorem dX10_swap_2 : decode cX10_swap 2 = .ok (.invokevirtual 230, 3) := by decide +kernel
theorem dX10_swap_5 : decode cX10_swap 5 = .ok (.ifCond .ne 6, 3) := by decide +kernel
theorem dX10_swap_8 : decode cX10_swap 8 = .ok (.bipush (-2), 2) := by decide +kernel
theorem dX10_swap_10 : decode cX10_swap 10 = .ok (.ireturn, 1) := by decide +kernel
theorem dX10_swap_11 : decode cX10_swap 11 = .ok (.aload_n 0, 1) := by decide +kernel
theorem dX10_swap_12 : decode cX10_swap 12 = .ok (.getfield 14, 3) := by decide +kernel
theorem dX10_swap_15 : decode cX10_swap 15 = .ok (.iload_n 2, 1) := by decide +kernel
theorem dX10_swap_16 : decode cX10_swap 16 = .ok (.invokevirtual 94, 3) := by decide +kernel
theorem dX10_swap_19 : decode cX10_swap 19 = .ok (.ifCond .eq 14, 3) := by decide +kernel
theorem dX10_swap_22 : decode cX10_swap 22 = .ok (.aload_n 0, 1) := by decide +kernel
theorem dX10_swap_23 : decode cX10_swap 23 = .ok (.getfield 14, 3) := by decide +kernel
theorem dX10_swap_26 : decode cX10_swap 26 = .ok (.iload_n 3, 1) := by decide +kernel
theorem dX10_swap_27 : decode cX10_swap 27 = .ok (.invokevirtual 94, 3) := by decide +kernel
theorem dX10_swap_30 : decode cX10_swap 30 = .ok (.ifCond .ne 5, 3) := by decide +kernel
theorem dX10_swap_33 : decode cX10_swap 33 = .ok (.iconst (-1), 1) := by decide +kernel
theorem dX10_swap_34 : decode cX10_swap 34 = .ok (.ireturn, 1) := by decide +kernel
theorem dX10_swap_35 : decode cX10_swap 35 = .ok (.iconst 0, 1) := by decide +kernel
theorem dX10_swap_36 : decode cX10_swap 36 = .ok (.istore 4, 2) := by decide +kernel
theorem dX10_swap_38 : decode cX10_swap 38 = .ok (.iconst 0, 1) := by decide +kernel
theorem dX10_swap_39 : decode cX10_swap 39 = .ok (.istore 5, 2) := by decide +kernel
theorem dX10_swap_41 : decode cX10_swap 41 = .ok (.iload 5, 2) := by decide +kernel
theorem dX10_swap_43 : decode cX10_swap 43 = .ok (.aload_n 0, 1) := by decide +kernel
theorem dX10_swap_44 : decode cX10_swap 44 = .ok (.getfield 14, 3) := by decide +kernel
theorem dX10_swap_47 : decode cX10_swap 47 = .ok (.getfield 140, 3) := by decide +kernel
theorem dX10_swap_50 : decode cX10_swap 50 = .ok (.if_icmp .ge 60, 3) := by decide +kernel
theorem dX10_swap_53 : decode cX10_swap 53 = .ok (.aload_n 0, 1) := by decide +kernel
theorem dX10_swap_54 : decode cX10_swap 54 = .ok (.getfield 81, 3) := by decide +kernel
theorem dX10_swap_57 : decode cX10_swap 57 = .ok (.iload 5, 2) := by decide +kernel
theorem dX10_swap_59 : decode cX10_swap 59 = .ok (.iaload, 1) := by decide +kernel
theorem dX10_swap_60 : decode cX10_swap 60 = .ok (.iload_n 2, 1) := by decide +kernel
theorem dX10_swap_61 : decode cX10_swap 61 = .ok (.if_icmp .ne 7, 3) := by decide +kernel
theorem dX10_swap_64 : decode cX10_swap 64 = .ok (.iload_n 3, 1) := by decide +kernel
theorem dX10_swap_65 : decode cX10_swap 65 = .ok (.goto 25, 3) := by decide +kernel
theorem dX10_swap_68 : decode cX10_swap 68 = .ok (.aload_n 0, 1) := by decide +kernel
theorem dX10_swap_69 : decode cX10_swap 69 = .ok (.getfield 81, 3) := by decide +kernel
theorem dX10_swap_72 : decode cX10_swap 72 = .ok (.iload 5, 2) := by decide +kernel
theorem dX10_swap_74 : decode cX10_swap 74 = .ok (.iaload, 1) := by decide +kernel
theorem dX10_swap_75 : decode cX10_swap 75 = .ok (.iload_n 3, 1) := by decide +kernel
theorem dX10_swap_76 : decode cX10_swap 76 = .ok (.if_icmp .ne 7, 3) := by decide +kernel
theorem dX10_swap_79 : decode cX10_swap 79 = .ok (.iload_n 2, 1) := by decide +kernel
theorem dX10_swap_80 : decode cX10_swap 80 = .ok (.goto 10, 3) := by decide +kernel
theorem dX10_swap_83 : decode cX10_swap 83 = .ok (.aload_n 0, 1) := by decide +kernel
theorem dX10_swap_84 : decode cX10_swap 84 = .ok (.getfield 81, 3) := by decide +kernel
theorem dX10_swap_87 : decode cX10_swap 87 = .ok (.iload 5, 2) := by decide +kernel
theorem dX10_swap_89 : decode cX10_swap 89 = .ok (.iaload, 1) := by decide +kernel
theorem dX10_swap_90 : decode cX10_swap 90 = .ok (.istore 6, 2) := by decide +kernel
theorem dX10_swap_92 : decode cX10_swap 92 = .ok (.iload 4, 2) := by decide +kernel
theorem dX10_swap_94 : decode cX10_swap 94 = .ok (.bipush 10, 2) := by decide +kernel
theorem dX10_swap_96 : decode cX10_swap 96 = .ok (.imul, 1) := by decide +kernel
theorem dX10_swap_97 : decode cX10_swap 97 = .ok (.iload 6, 2) := by decide +kernel
theorem dX10_swap_99 : decode cX10_swap 99 = .ok (.iadd, 1) := by decide +kernel
theorem dX10_swap_100 : decode cX10_swap 100 = .ok (.iconst 1, 1) := by decide +kernel
theorem dX10_swap_101 : decode cX10_swap 101 = .ok (.iadd, 1) := by decide +kernel
theorem dX10_swap_102 : decode cX10_swap 102 = .ok (.istore 4, 2) := by decide +kernel
theorem dX10_swap_104 : decode cX10_swap 104 = .ok (.iinc 5 1, 3) := by decide +kernel
theorem dX10_swap_107 : decode cX10_swap 107 = .ok (.goto (-66), 3) := by decide +kernel
theorem dX10_swap_110 : decode cX10_swap 110 = .ok (.iload 4, 2) := by decide +kernel
theorem dX10_swap_112 : decode cX10_swap 112 = .ok (.ireturn, 1) := by decide +kernel
set_option maxRecDepth 20000 in
theorem ggX10_feed_X7_append : GoodIn wsX10_feed wsX7_append := goodIn_r _ [7, 8, 9, 28, 29, 30, 31, 32, 33] (by decide +kernel) (by decide +kernel)
set_option maxRecDepth 20000 in
theorem gX10_feed_X7_append : GoodIn wsX10_feed (wsV RX10 262 RX7 yX7_append wsX7_append) := goodIn_app (goodIn_of _ (by decide +kernel)) ggX10_feed_X7_append
theorem dX10_feed_0 : decode cX10_feed 0 = .ok (.iload_n 1, 1) := by decide +kernel
theorem dX10_feed_1 : decode cX10_feed 1 = .ok (.ifCond .lt 9, 3) := by decide +kernel
theorem dX10_feed_4 : decode cX10_feed 4 = .ok (.iload_n 1, 1) := by decide +kernel
theorem dX10_feed_5 : decode cX10_feed 5 = .ok (.bipush 127, 2) := by decide +kernel
theorem dX10_feed_7 : decode cX10_feed 7 = .ok (.if_icmp .le 6, 3) := by decide +kernel
theorem dX10_feed_10 : decode cX10_feed 10 = .ok (.bipush (-2), 2) := by decide +kernel
theorem dX10_feed_12 : decode cX10_feed 12 = .ok (.ireturn, 1) := by decide +kernel
theorem dX10_feed_13 : decode cX10_feed 13 = .ok (.aload_n 0, 1) := by decide +kernel
theorem dX10_feed_14 : decode cX10_feed 14 = .ok (.getfield 58, 3) := by decide +kernel
theorem dX10_feed_17 : decode cX10_feed 17 = .ok (.iload_n 1, 1) := by decide +kernel
theorem dX10_feed_18 : decode cX10_feed 18 = .ok (.invokevirtual 262, 3) := by decide +kernel
theorem dX10_feed_21 : decode cX10_feed 21 = .ok (.ifCond .eq 13, 3) := by decide +kernel
theorem dX10_feed_24 : decode cX10_feed 24 = .ok (.aload_n 0, 1) := by decide +kernel
theorem dX10_feed_25 : decode cX10_feed 25 = .ok (.getfield 58, 3) := by decide +kernel
theorem dX10_feed_28 : decode cX10_feed 28 = .ok (.getfield 151, 3) := by decide +kernel
theorem dX10_feed_31 : decode cX10_feed 31 = .ok (.goto 5, 3) := by decide +kernel
theorem dX10_feed_34 : decode cX10_feed 34 = .ok (.bipush (-4), 2) := by decide +kernel
theorem dX10_feed_36 : decode cX10_feed 36 = .ok (.ireturn, 1) := by decide +kernel
set_option maxRecDepth 20000 in
theorem ggX10_read_X5_become : GoodIn wsX10_read wsX5_become := goodIn_r _ [9, 10, 11, 12, 13, 14, 15, 16, 17, 18, 111, 112, 113, 114, 115] (by decide +kernel) (by decide +kernel)
set_option maxRecDepth 20000 in
theorem gX10_read_X5_become : GoodIn wsX10_read (wsV RX10 265 RX5 yX5_become wsX5_become) := goodIn_app (goodIn_of _ (by decide +kernel)) ggX10_read_X5_become
set_option maxRecDepth 20000 in
theorem ggX10_read_X7_tellTo : GoodIn wsX10_read wsX7_tellTo := goodIn_r _ [23, 24, 25, 26, 27, 22, 28, 29, 30, 31, 32, 33, 34, 35, 36, 37, 38, 39, 40, 41, 42, 43, 44, 45, 46, 47, 48, 49, 50, 51, 52, 53, 54, 55, 56, 57, 58, 59, 8, 60, 11, 18, 61, 62, 63, 64, 17, 65, 66, 67, 68, 10, 69, 70, 71, 72, 73, 74, 75, 76, 77, 78, 79, 80, 12, 81, 82, 83, 84, 116, 117, 118, 119, 120, 121, 111, 112, 113, 114, 115] (by decide +kernel) (by decide +kernel)
set_option maxRecDepth 20000 in
theorem gX10_read_X7_tellTo : GoodIn wsX10_read (wsV RX10 268 RX7 yX7_tellTo wsX7_tellTo) := goodIn_app (goodIn_of _ (by decide +kernel)) ggX10_read_X7_tellTo
set_option maxRecDepth 20000 in
theorem ggX10_read_X10_siteChanged : GoodIn wsX10_read wsX10_siteChanged := goodIn_r _ [89, 90, 91, 92, 93, 94, 95, 96, 97, 98, 99, 100, 101, 102, 103, 104, 105, 106, 107, 108, 109, 110] (by decide +kernel) (by decide +kernel)
set_option maxRecDepth 20000 in
theorem gX10_read_X10_siteChanged : GoodIn wsX10_read (wsV RX10 91 RX10 yX10_siteChanged wsX10_siteChanged) := goodIn_app (goodIn_of _ (by decide +kernel)) ggX10_read_X10_siteChanged
theorem dX10_read_0 : decode cX10_read 0 = .ok (.aload_n 0, 1) := by decide +kernel
theorem dX10_read_1 : decode cX10_read 1 = .ok (.getfield 21, 3) := by decide +kernel
theorem dX10_read_4 : decode cX10_read 4 = .ok (.aload_n 0, 1) := by decide +kernel
theorem dX10_read_5 : decode cX10_read 5 = .ok (.getfield 14, 3) := by decide +kernel
theorem dX10_read_8 : decode cX10_read 8 = .ok (.invokevirtual 265, 3) := by decide +kernel
theorem dX10_read_11 : decode cX10_read 11 = .ok (.aload_n 0, 1) := by decide +kernel
theorem dX10_read_12 : decode cX10_read 12 = .ok (.getfield 58, 3) := by decide +kernel
theorem dX10_read_15 : decode cX10_read 15 = .ok (.aload_n 0, 1) := by decide +kernel
theorem dX10_read_16 : decode cX10_read 16 = .ok (.getfield 21, 3) := by decide +kernel
theorem dX10_read_19 : decode cX10_read 19 = .ok (.invokevirtual 268, 3) := by decide +kernel
theorem dX10_read_22 : decode cX10_read 22 = .ok (.istore_n 1, 1) := by decide +kernel
theorem dX10_read_23 : decode cX10_read 23 = .ok (.iload_n 1, 1) := by decide +kernel
theorem dX10_read_24 : decode cX10_read 24 = .ok (.ifCond .lt 28, 3) := by decide +kernel
theorem dX10_read_27 : decode cX10_read 27 = .ok (.aload_n 0, 1) := by decide +kernel
theorem dX10_read_28 : decode cX10_read 28 = .ok (.getfield 14, 3) := by decide +kernel
theorem dX10_read_31 : decode cX10_read 31 = .ok (.aload_n 0, 1) := by decide +kernel
theorem dX10_read_32 : decode cX10_read 32 = .ok (.getfield 21, 3) := by decide +kernel
theorem dX10_read_35 : decode cX10_read 35 = .ok (.invokevirtual 265, 3) := by decide +kernel
theorem dX10_read_38 : decode cX10_read 38 = .ok (.aload_n 0, 1) := by decide +kernel
theorem dX10_read_39 : decode cX10_read 39 = .ok (.dup, 1) := by decide +kernel
theorem dX10_read_40 : decode cX10_read 40 = .ok (.getfield 154, 3) := by decide +kernel
theorem dX10_read_43 : decode cX10_read 43 = .ok (.iconst 1, 1) := by decide +kernel
theorem dX10_read_44 : decode cX10_read 44 = .ok (.iadd, 1) := by decide +kernel
theorem dX10_read_45 : decode cX10_read 45 = .ok (.putfield 154, 3) := by decide +kernel
theorem dX10_read_48 : decode cX10_read 48 = .ok (.aload_n 0, 1) := by decide +kernel
theorem dX10_read_49 : decode cX10_read 49 = .ok (.invokevirtual 91, 3) := by decide +kernel
theorem dX10_read_52 : decode cX10_read 52 = .ok (.iload_n 1, 1) := by decide +kernel
theorem dX10_read_53 : decode cX10_read 53 = .ok (.ireturn, 1) := by decide +kernel
set_option maxRecDepth 20000 in
theorem ggX10_spell_X10_readySheet : GoodIn wsX10_spell wsX10_readySheet := goodIn_r _ [6, 7, 8, 9, 10, 11, 12, 13, 14, 15, 16, 17, 18, 19, 20, 21, 22, 23, 24, 25, 26, 27, 28, 29, 30, 31, 32, 33, 34, 35, 36, 37, 38, 39, 40, 41, 42, 43, 44, 45, 46, 47, 48, 49, 50, 51, 52, 53, 54, 55, 56, 57, 60, 61, 62, 63, 64, 65, 66, 67, 68, 69, 70, 71, 72, 73, 74, 75, 76, 77, 58, 59, 78, 79, 80, 81, 82] (by decide +kernel) (by decide +kernel)
set_option maxRecDepth 20000 in
theorem gX10_spell_X10_readySheet : GoodIn wsX10_spell (wsV RX10 271 RX10 yX10_readySheet wsX10_readySheet) := goodIn_app (goodIn_of _ (by decide +kernel)) ggX10_spell_X10_readySheet
theorem dX10_spell_0 : decode cX10_spell 0 = .ok (.aload_n 0, 1) := by decide +kernel
theorem dX10_spell_1 : decode cX10_spell 1 = .ok (.invokevirtual 271, 3) := by decide +kernel
theorem dX10_spell_4 : decode cX10_spell 4 = .ok (.getfield 275, 3) := by decide +kernel
theorem dX10_spell_7 : decode cX10_spell 7 = .ok (.ireturn, 1) := by decide +kernel
set_option maxRecDepth 20000 in
theorem ggX10_paper_X10_readySheet : GoodIn wsX10_paper wsX10_readySheet := goodIn_r _ [7, 8, 9, 10, 11, 12, 13, 14, 15, 16, 17, 18, 19, 20, 21, 22, 23, 24, 25, 26, 27, 28, 29, 30, 31, 32, 33, 34, 35, 36, 37, 38, 39, 40, 41, 42, 43, 44, 45, 46, 47, 48, 49, 50, 51, 52, 53, 54, 55, 56, 57, 58, 61, 62, 63, 64, 65, 66, 67, 68, 69, 70, 71, 72, 73, 74, 75, 76, 77, 78, 59, 60, 79, 80, 81, 82, 83] (by decide +kernel) (by decide +kernel)
set_option maxRecDepth 20000 in
theorem gX10_paper_X10_readySheet : GoodIn wsX10_paper (wsV RX10 271 RX10 yX10_readySheet wsX10_readySheet) := goodIn_app (goodIn_of _ (by decide +kernel)) ggX10_paper_X10_readySheet
theorem dX10_paper_0 : decode cX10_paper 0 = .ok (.aload_n 0, 1) := by decide +kernel
theorem dX10_paper_1 : decode cX10_paper 1 = .ok (.invokevirtual 271, 3) := by decide +kernel
theorem dX10_paper_4 : decode cX10_paper 4 = .ok (.astore_n 2, 1) := by decide +kernel
theorem dX10_paper_5 : decode cX10_paper 5 = .ok (.iload_n 1, 1) := by decide +kernel
theorem dX10_paper_6 : decode cX10_paper 6 = .ok (.ifCond .lt 11, 3) := by decide +kernel
theorem dX10_paper_9 : decode cX10_paper 9 = .ok (.iload_n 1, 1) := by decide +kernel
theorem dX10_paper_10 : decode cX10_paper 10 = .ok (.aload_n 2, 1) := by decide +kernel
theorem dX10_paper_11 : decode cX10_paper 11 = .ok (.getfield 275, 3) := by decide +kernel
theorem dX10_paper_14 : decode cX10_paper 14 = .ok (.if_icmp .lt 7, 3) := by decide +kernel
theorem dX10_paper_17 : decode cX10_paper 17 = .ok (.iconst (-1), 1) := by decide +kernel
theorem dX10_paper_18 : decode cX10_paper 18 = .ok (.goto 9, 3) := by decide +kernel
theorem dX10_paper_21 : decode cX10_paper 21 = .ok (.aload_n 2, 1) := by decide +kernel
theorem dX10_paper_22 : decode cX10_paper 22 = .ok (.getfield 276, 3) := by decide +kernel
theorem dX10_paper_25 : decode cX10_paper 25 = .ok (.iload_n 1, 1) := by decide +kernel
theorem dX10_paper_26 : decode cX10_paper 26 = .ok (.iaload, 1) := by decide +kernel
theorem dX10_paper_27 : decode cX10_paper 27 = .ok (.ireturn, 1) := by decide +kernel
theorem dX10_tray_0 : decode cX10_tray 0 = .ok (.iload_n 1, 1) := by decide +kernel
theorem dX10_tray_1 : decode cX10_tray 1 = .ok (.ifCond .lt 8, 3) := by decide +kernel
theorem dX10_tray_4 : decode cX10_tray 4 = .ok (.iload_n 1, 1) := by decide +kernel
theorem dX10_tray_5 : decode cX10_tray 5 = .ok (.iconst 4, 1) := by decide +kernel
theorem dX10_tray_6 : decode cX10_tray 6 = .ok (.if_icmp .lt 5, 3) := by decide +kernel
theorem dX10_tray_9 : decode cX10_tray 9 = .ok (.iconst (-1), 1) := by decide +kernel
theorem dX10_tray_10 : decode cX10_tray 10 = .ok (.ireturn, 1) := by decide +kernel
theorem dX10_tray_11 : decode cX10_tray 11 = .ok (.iload_n 2, 1) := by decide +kernel
theorem dX10_tray_12 : decode cX10_tray 12 = .ok (.ifCond .eq 11, 3) := by decide +kernel
theorem dX10_tray_15 : decode cX10_tray 15 = .ok (.iload_n 2, 1) := by decide +kernel
theorem dX10_tray_16 : decode cX10_tray 16 = .ok (.iconst 1, 1) := by decide +kernel
theorem dX10_tray_17 : decode cX10_tray 17 = .ok (.if_icmp .eq 6, 3) := by decide +kernel
theorem dX10_tray_20 : decode cX10_tray 20 = .ok (.bipush (-2), 2) := by decide +kernel
theorem dX10_tray_22 : decode cX10_tray 22 = .ok (.ireturn, 1) := by decide +kernel
theorem dX10_tray_23 : decode cX10_tray 23 = .ok (.aload_n 0, 1) := by decide +kernel
theorem dX10_tray_24 : decode cX10_tray 24 = .ok (.getfield 71, 3) := by decide +kernel
theorem dX10_tray_27 : decode cX10_tray 27 = .ok (.iload_n 1, 1) := by decide +kernel
theorem dX10_tray_28 : decode cX10_tray 28 = .ok (.aaload, 1) := by decide +kernel
theorem dX10_tray_29 : decode cX10_tray 29 = .ok (.iload_n 2, 1) := by decide +kernel
theorem dX10_tray_30 : decode cX10_tray 30 = .ok (.iconst 1, 1) := by decide +kernel
theorem dX10_tray_31 : decode cX10_tray 31 = .ok (.if_icmp .ne 7, 3) := by decide +kernel
theorem dX10_tray_34 : decode cX10_tray 34 = .ok (.iconst 1, 1) := by decide +kernel
theorem dX10_tray_35 : decode cX10_tray 35 = .ok (.goto 4, 3) := by decide +kernel
theorem dX10_tray_38 : decode cX10_tray 38 = .ok (.iconst 0, 1) := by decide +kernel
theorem dX10_tray_39 : decode cX10_tray 39 = .ok (.putfield 279, 3) := by decide +kernel
theorem dX10_tray_42 : decode cX10_tray 42 = .ok (.aload_n 0, 1) := by decide +kernel
theorem dX10_tray_43 : decode cX10_tray 43 = .ok (.getfield 71, 3) := by decide +kernel
theorem dX10_tray_46 : decode cX10_tray 46 = .ok (.iload_n 1, 1) := by decide +kernel
theorem dX10_tray_47 : decode cX10_tray 47 = .ok (.aaload, 1) := by decide +kernel
theorem dX10_tray_48 : decode cX10_tray 48 = .ok (.iconst 0, 1) := by decide +kernel
theorem dX10_tray_49 : decode cX10_tray 49 = .ok (.putfield 283, 3) := by decide +kernel
theorem dX10_tray_52 : decode cX10_tray 52 = .ok (.iconst 1, 1) := by decide +kernel
theorem dX10_tray_53 : decode cX10_tray 53 = .ok (.ireturn, 1) := by decide +kernel
set_option maxRecDepth 20000 in
theorem ggX10_lay_X5_holds : GoodIn wsX10_lay wsX5_holds := goodIn_r _ [11, 12, 53, 54, 55, 56, 57] (by decide +kernel) (by decide +kernel)
set_option maxRecDepth 20000 in
theorem gX10_lay_X5_holds : GoodIn wsX10_lay (wsV RX10 94 RX5 yX5_holds wsX5_holds) := goodIn_app (goodIn_of _ (by decide +kernel)) ggX10_lay_X5_holds
set_option maxRecDepth 20000 in
theorem ggX10_lay_X5_owns : GoodIn wsX10_lay wsX5_owns := goodIn_r _ [16, 17, 18, 8, 9, 10, 11, 12, 53, 54, 55, 56, 57] (by decide +kernel) (by decide +kernel)
set_option maxRecDepth 20000 in
theorem gX10_lay_X5_owns : GoodIn wsX10_lay (wsV RX10 101 RX5 yX5_owns wsX5_owns) := goodIn_app (goodIn_of _ (by decide +kernel)) ggX10_lay_X5_owns
set_option maxRecDepth 20000 in
theorem ggX10_lay_X8_add : GoodIn wsX10_lay wsX8_add := goodIn_r _ [23, 24, 25, 26, 27, 28, 29, 22, 30, 49, 50, 51, 52] (by decide +kernel) (by decide +kernel)
set_option maxRecDepth 20000 in
theorem gX10_lay_X8_add : GoodIn wsX10_lay (wsV RX10 284 RX8 yX8_add wsX8_add) := goodIn_app (goodIn_of _ (by decide +kernel)) ggX10_lay_X8_add
theorem dX10_lay_0 : decode cX10_lay 0 = .ok (.iload_n 1, 1) := by decide +kernel
theorem dX10_lay_1 : decode cX10_lay 1 = .ok (.ifCond .lt 19, 3) := by decide +kernel
theorem dX10_lay_4 : decode cX10_lay 4 = .ok (.iload_n 1, 1) := by decide +kernel
theorem dX10_lay_5 : decode cX10_lay 5 = .ok (.iconst 4, 1) := by decide +kernel
theorem dX10_lay_6 : decode cX10_lay 6 = .ok (.if_icmp .ge 14, 3) := by decide +kernel
theorem dX10_lay_9 : decode cX10_lay 9 = .ok (.aload_n 0, 1) := by decide +kernel
theorem dX10_lay_10 : decode cX10_lay 10 = .ok (.getfield 14, 3) := by decide +kernel
theorem dX10_lay_13 : decode cX10_lay 13 = .ok (.iload_n 2, 1) := by decide +kernel
theorem dX10_lay_14 : decode cX10_lay 14 = .ok (.invokevirtual 94, 3) := by decide +kernel
theorem dX10_lay_17 : decode cX10_lay 17 = .ok (.ifCond .ne 5, 3) := by decide +kernel
theorem dX10_lay_20 : decode cX10_lay 20 = .ok (.iconst (-1), 1) := by decide +kernel
theorem dX10_lay_21 : decode cX10_lay 21 = .ok (.ireturn, 1) := by decide +kernel
theorem dX10_lay_22 : decode cX10_lay 22 = .ok (.aload_n 0, 1) := by decide +kernel
theorem dX10_lay_23 : decode cX10_lay 23 = .ok (.getfield 71, 3) := by decide +kernel
theorem dX10_lay_26 : decode cX10_lay 26 = .ok (.iload_n 1, 1) := by decide +kernel
theorem dX10_lay_27 : decode cX10_lay 27 = .ok (.aaload, 1) := by decide +kernel
theorem dX10_lay_28 : decode cX10_lay 28 = .ok (.astore_n 3, 1) := by decide +kernel
theorem dX10_lay_29 : decode cX10_lay 29 = .ok (.aload_n 3, 1) := by decide +kernel
theorem dX10_lay_30 : decode cX10_lay 30 = .ok (.getfield 279, 3) := by decide +kernel
theorem dX10_lay_33 : decode cX10_lay 33 = .ok (.ifCond .ne 6, 3) := by decide +kernel
theorem dX10_lay_36 : decode cX10_lay 36 = .ok (.bipush (-11), 2) := by decide +kernel
theorem dX10_lay_38 : decode cX10_lay 38 = .ok (.ireturn, 1) := by decide +kernel
theorem dX10_lay_39 : decode cX10_lay 39 = .ok (.iconst 0, 1) := by decide +kernel
theorem dX10_lay_40 : decode cX10_lay 40 = .ok (.istore 4, 2) := by decide +kernel
theorem dX10_lay_42 : decode cX10_lay 42 = .ok (.iload 4, 2) := by decide +kernel
theorem dX10_lay_44 : decode cX10_lay 44 = .ok (.aload_n 0, 1) := by decide +kernel
theorem dX10_lay_45 : decode cX10_lay 45 = .ok (.getfield 14, 3) := by decide +kernel
theorem dX10_lay_48 : decode cX10_lay 48 = .ok (.getfield 144, 3) := by decide +kernel
theorem dX10_lay_51 : decode cX10_lay 51 = .ok (.if_icmp .ge 36, 3) := by decide +kernel
theorem dX10_lay_54 : decode cX10_lay 54 = .ok (.aload_n 0, 1) := by decide +kernel
theorem dX10_lay_55 : decode cX10_lay 55 = .ok (.getfield 14, 3) := by decide +kernel
theorem dX10_lay_58 : decode cX10_lay 58 = .ok (.iload_n 2, 1) := by decide +kernel
theorem dX10_lay_59 : decode cX10_lay 59 = .ok (.iload 4, 2) := by decide +kernel
theorem dX10_lay_61 : decode cX10_lay 61 = .ok (.invokevirtual 101, 3) := by decide +kernel
theorem dX10_lay_64 : decode cX10_lay 64 = .ok (.ifCond .eq 17, 3) := by decide +kernel
theorem dX10_lay_67 : decode cX10_lay 67 = .ok (.aload_n 3, 1) := by decide +kernel
theorem dX10_lay_68 : decode cX10_lay 68 = .ok (.aload_n 0, 1) := by decide +kernel
theorem dX10_lay_69 : decode cX10_lay 69 = .ok (.getfield 14, 3) := by decide +kernel
theorem dX10_lay_72 : decode cX10_lay 72 = .ok (.getfield 124, 3) := by decide +kernel
theorem dX10_lay_75 : decode cX10_lay 75 = .ok (.iload 4, 2) := by decide +kernel
theorem dX10_lay_77 : decode cX10_lay 77 = .ok (.iaload, 1) := by decide +kernel
theorem dX10_lay_78 : decode cX10_lay 78 = .ok (.invokevirtual 284, 3) := by decide +kernel
theorem dX10_lay_81 : decode cX10_lay 81 = .ok (.iinc 4 1, 3) := by decide +kernel
theorem dX10_lay_84 : decode cX10_lay 84 = .ok (.goto (-42), 3) := by decide +kernel
theorem dX10_lay_87 : decode cX10_lay 87 = .ok (.aload_n 3, 1) := by decide +kernel
theorem dX10_lay_88 : decode cX10_lay 88 = .ok (.getfield 283, 3) := by decide +kernel
theorem dX10_lay_91 : decode cX10_lay 91 = .ok (.ireturn, 1) := by decide +kernel
set_option maxRecDepth 20000 in
theorem ggX10_laid_X5_knows : GoodIn wsX10_laid wsX5_knows := goodIn_r _ [10, 11, 41, 42, 43, 44, 45] (by decide +kernel) (by decide +kernel)
set_option maxRecDepth 20000 in
theorem gX10_laid_X5_knows : GoodIn wsX10_laid (wsV RX10 98 RX5 yX5_knows wsX5_knows) := goodIn_app (goodIn_of _ (by decide +kernel)) ggX10_laid_X5_knows
set_option maxRecDepth 20000 in
theorem ggX10_laid_X8_find : GoodIn wsX10_laid wsX8_find := goodIn_r _ [16, 17, 18, 37, 38, 39, 40] (by decide +kernel) (by decide +kernel)
set_option maxRecDepth 20000 in
theorem gX10_laid_X8_find : GoodIn wsX10_laid (wsV RX10 287 RX8 yX8_find wsX8_find) := goodIn_app (goodIn_of _ (by decide +kernel)) ggX10_laid_X8_find
theorem dX10_laid_0 : decode cX10_laid 0 = .ok (.iload_n 1, 1) := by decide +kernel
theorem dX10_laid_1 : decode cX10_laid 1 = .ok (.ifCond .lt 19, 3) := by decide +kernel
theorem dX10_laid_4 : decode cX10_laid 4 = .ok (.iload_n 1, 1) := by decide +kernel
theorem dX10_laid_5 : decode cX10_laid 5 = .ok (.iconst 4, 1) := by decide +kernel
theorem dX10_laid_6 : decode cX10_laid 6 = .ok (.if_icmp .ge 14, 3) := by decide +kernel
theorem dX10_laid_9 : decode cX10_laid 9 = .ok (.aload_n 0, 1) := by decide +kernel
theorem dX10_laid_10 : decode cX10_laid 10 = .ok (.getfield 14, 3) := by decide +kernel
theorem dX10_laid_13 : decode cX10_laid 13 = .ok (.iload_n 2, 1) := by decide +kernel
theorem dX10_laid_14 : decode cX10_laid 14 = .ok (.invokevirtual 98, 3) := by decide +kernel
theorem dX10_laid_17 : decode cX10_laid 17 = .ok (.ifCond .ne 5, 3) := by decide +kernel
theorem dX10_laid_20 : decode cX10_laid 20 = .ok (.iconst (-1), 1) := by decide +kernel
theorem dX10_laid_21 : decode cX10_laid 21 = .ok (.ireturn, 1) := by decide +kernel
theorem dX10_laid_22 : decode cX10_laid 22 = .ok (.aload_n 0, 1) := by decide +kernel
theorem dX10_laid_23 : decode cX10_laid 23 = .ok (.getfield 71, 3) := by decide +kernel
theorem dX10_laid_26 : decode cX10_laid 26 = .ok (.iload_n 1, 1) := by decide +kernel
theorem dX10_laid_27 : decode cX10_laid 27 = .ok (.aaload, 1) := by decide +kernel
theorem dX10_laid_28 : decode cX10_laid 28 = .ok (.astore_n 3, 1) := by decide +kernel
theorem dX10_laid_29 : decode cX10_laid 29 = .ok (.aload_n 3, 1) := by decide +kernel
theorem dX10_laid_30 : decode cX10_laid 30 = .ok (.getfield 279, 3) := by decide +kernel
theorem dX10_laid_33 : decode cX10_laid 33 = .ok (.ifCond .ne 6, 3) := by decide +kernel
theorem dX10_laid_36 : decode cX10_laid 36 = .ok (.bipush (-11), 2) := by decide +kernel
theorem dX10_laid_38 : decode cX10_laid 38 = .ok (.ireturn, 1) := by decide +kernel
theorem dX10_laid_39 : decode cX10_laid 39 = .ok (.aload_n 3, 1) := by decide +kernel
theorem dX10_laid_40 : decode cX10_laid 40 = .ok (.aload_n 0, 1) := by decide +kernel
theorem dX10_laid_41 : decode cX10_laid 41 = .ok (.getfield 14, 3) := by decide +kernel
theorem dX10_laid_44 : decode cX10_laid 44 = .ok (.getfield 124, 3) := by decide +kernel
theorem dX10_laid_47 : decode cX10_laid 47 = .ok (.iload_n 2, 1) := by decide +kernel
theorem dX10_laid_48 : decode cX10_laid 48 = .ok (.iaload, 1) := by decide +kernel
theorem dX10_laid_49 : decode cX10_laid 49 = .ok (.invokevirtual 287, 3) := by decide +kernel
theorem dX10_laid_52 : decode cX10_laid 52 = .ok (.istore 4, 2) := by decide +kernel
theorem dX10_laid_54 : decode cX10_laid 54 = .ok (.iload 4, 2) := by decide +kernel
theorem dX10_laid_56 : decode cX10_laid 56 = .ok (.ifCond .ge 8, 3) := by decide +kernel
theorem dX10_laid_59 : decode cX10_laid 59 = .ok (.bipush (-5), 2) := by decide +kernel
theorem dX10_laid_61 : decode cX10_laid 61 = .ok (.goto 10, 3) := by decide +kernel
theorem dX10_laid_64 : decode cX10_laid 64 = .ok (.aload_n 3, 1) := by decide +kernel
theorem dX10_laid_65 : decode cX10_laid 65 = .ok (.getfield 290, 3) := by decide +kernel
theorem dX10_laid_68 : decode cX10_laid 68 = .ok (.iload 4, 2) := by decide +kernel
theorem dX10_laid_70 : decode cX10_laid 70 = .ok (.iaload, 1) := by decide +kernel
theorem dX10_laid_71 : decode cX10_laid 71 = .ok (.ireturn, 1) := by decide +kernel
set_option maxRecDepth 20000 in
theorem ggX10_list_X1_become : GoodIn wsX10_list wsX1_become := goodIn_r _ [6, 7, 8, 27, 28] (by decide +kernel) (by decide +kernel)
set_option maxRecDepth 20000 in
theorem gX10_list_X1_become : GoodIn wsX10_list (wsV RX10 293 RX1 yX1_become wsX1_become) := goodIn_app (goodIn_of _ (by decide +kernel)) ggX10_list_X1_become
theorem dX10_list_0 : decode cX10_list 0 = .ok (.iload_n 1, 1) := by decide +kernel
theorem dX10_list_1 : decode cX10_list 1 = .ok (.ifCond .lt 8, 3) := by decide +kernel
theorem dX10_list_4 : decode cX10_list 4 = .ok (.iload_n 1, 1) := by decide +kernel
theorem dX10_list_5 : decode cX10_list 5 = .ok (.iconst 3, 1) := by decide +kernel
theorem dX10_list_6 : decode cX10_list 6 = .ok (.if_icmp .lt 5, 3) := by decide +kernel
theorem dX10_list_9 : decode cX10_list 9 = .ok (.iconst (-1), 1) := by decide +kernel
theorem dX10_list_10 : decode cX10_list 10 = .ok (.ireturn, 1) := by decide +kernel
theorem dX10_list_11 : decode cX10_list 11 = .ok (.iload_n 2, 1) := by decide +kernel
theorem dX10_list_12 : decode cX10_list 12 = .ok (.bipush 30, 2) := by decide +kernel
theorem dX10_list_14 : decode cX10_list 14 = .ok (.if_icmp .le 6, 3) := by decide +kernel
theorem dX10_list_17 : decode cX10_list 17 = .ok (.bipush (-2), 2) := by decide +kernel
theorem dX10_list_19 : decode cX10_list 19 = .ok (.ireturn, 1) := by decide +kernel
theorem dX10_list_20 : decode cX10_list 20 = .ok (.iload_n 2, 1) := by decide +kernel
theorem dX10_list_21 : decode cX10_list 21 = .ok (.iconst (-1), 1) := by decide +kernel
theorem dX10_list_22 : decode cX10_list 22 = .ok (.if_icmp .ge 6, 3) := by decide +kernel
theorem dX10_list_25 : decode cX10_list 25 = .ok (.bipush (-14), 2) := by decide +kernel
theorem dX10_list_27 : decode cX10_list 27 = .ok (.ireturn, 1) := by decide +kernel
theorem dX10_list_28 : decode cX10_list 28 = .ok (.aload_n 0, 1) := by decide +kernel
theorem dX10_list_29 : decode cX10_list 29 = .ok (.getfield 77, 3) := by decide +kernel
theorem dX10_list_32 : decode cX10_list 32 = .ok (.iload_n 1, 1) := by decide +kernel
theorem dX10_list_33 : decode cX10_list 33 = .ok (.aaload, 1) := by decide +kernel
theorem dX10_list_34 : decode cX10_list 34 = .ok (.iload_n 2, 1) := by decide +kernel
theorem dX10_list_35 : decode cX10_list 35 = .ok (.invokevirtual 293, 3) := by decide +kernel
theorem dX10_list_38 : decode cX10_list 38 = .ok (.iconst 1, 1) := by decide +kernel
theorem dX10_list_39 : decode cX10_list 39 = .ok (.ireturn, 1) := by decide +kernel
set_option maxRecDepth 20000 in
theorem ggX10_put_X1_isMissing : GoodIn wsX10_put wsX1_isMissing := goodIn_r _ [7, 8, 31, 32] (by decide +kernel) (by decide +kernel)
set_option maxRecDepth 20000 in
theorem gX10_put_X1_isMissing : GoodIn wsX10_put (wsV RX10 295 RX1 yX1_isMissing wsX1_isMissing) := goodIn_app (goodIn_of _ (by decide +kernel)) ggX10_put_X1_isMissing
set_option maxRecDepth 20000 in
theorem ggX10_put_X1_reaches : GoodIn wsX10_put wsX1_reaches := goodIn_r _ [12, 8, 31, 32] (by decide +kernel) (by decide +kernel)
set_option maxRecDepth 20000 in
theorem gX10_put_X1_reaches : GoodIn wsX10_put (wsV RX10 299 RX1 yX1_reaches wsX1_reaches) := goodIn_app (goodIn_of _ (by decide +kernel)) ggX10_put_X1_reaches
theorem dX10_put_0 : decode cX10_put 0 = .ok (.iload_n 1, 1) := by decide +kernel
theorem dX10_put_1 : decode cX10_put 1 = .ok (.ifCond .lt 8, 3) := by decide +kernel
theorem dX10_put_4 : decode cX10_put 4 = .ok (.iload_n 1, 1) := by decide +kernel
theorem dX10_put_5 : decode cX10_put 5 = .ok (.iconst 3, 1) := by decide +kernel
theorem dX10_put_6 : decode cX10_put 6 = .ok (.if_icmp .lt 5, 3) := by decide +kernel
theorem dX10_put_9 : decode cX10_put 9 = .ok (.iconst (-1), 1) := by decide +kernel
theorem dX10_put_10 : decode cX10_put 10 = .ok (.ireturn, 1) := by decide +kernel
theorem dX10_put_11 : decode cX10_put 11 = .ok (.aload_n 0, 1) := by decide +kernel
theorem dX10_put_12 : decode cX10_put 12 = .ok (.getfield 77, 3) := by decide +kernel
theorem dX10_put_15 : decode cX10_put 15 = .ok (.iload_n 1, 1) := by decide +kernel
theorem dX10_put_16 : decode cX10_put 16 = .ok (.aaload, 1) := by decide +kernel
theorem dX10_put_17 : decode cX10_put 17 = .ok (.astore 4, 2) := by decide +kernel
theorem dX10_put_19 : decode cX10_put 19 = .ok (.aload 4, 2) := by decide +kernel
theorem dX10_put_21 : decode cX10_put 21 = .ok (.invokevirtual 295, 3) := by decide +kernel
theorem dX10_put_24 : decode cX10_put 24 = .ok (.ifCond .eq 6, 3) := by decide +kernel
theorem dX10_put_27 : decode cX10_put 27 = .ok (.bipush (-11), 2) := by decide +kernel
theorem dX10_put_29 : decode cX10_put 29 = .ok (.ireturn, 1) := by decide +kernel
theorem dX10_put_30 : decode cX10_put 30 = .ok (.aload 4, 2) := by decide +kernel
theorem dX10_put_32 : decode cX10_put 32 = .ok (.iload_n 2, 1) := by decide +kernel
theorem dX10_put_33 : decode cX10_put 33 = .ok (.invokevirtual 299, 3) := by decide +kernel
theorem dX10_put_36 : decode cX10_put 36 = .ok (.ifCond .ne 6, 3) := by decide +kernel
theorem dX10_put_39 : decode cX10_put 39 = .ok (.bipush (-12), 2) := by decide +kernel
theorem dX10_put_41 : decode cX10_put 41 = .ok (.ireturn, 1) := by decide +kernel
theorem dX10_put_42 : decode cX10_put 42 = .ok (.aload 4, 2) := by decide +kernel
theorem dX10_put_44 : decode cX10_put 44 = .ok (.getfield 302, 3) := by decide +kernel
theorem dX10_put_47 : decode cX10_put 47 = .ok (.iload_n 2, 1) := by decide +kernel
theorem dX10_put_48 : decode cX10_put 48 = .ok (.iload_n 3, 1) := by decide +kernel
theorem dX10_put_49 : decode cX10_put 49 = .ok (.iastore, 1) := by decide +kernel
theorem dX10_put_50 : decode cX10_put 50 = .ok (.iconst 1, 1) := by decide +kernel
theorem dX10_put_51 : decode cX10_put 51 = .ok (.ireturn, 1) := by decide +kernel
set_option maxRecDepth 20000 in
theorem ggX10_get_X1_reaches : GoodIn wsX10_get wsX1_reaches := goodIn_r _ [8, 9, 28, 29] (by decide +kernel) (by decide +kernel)
set_option maxRecDepth 20000 in
theorem gX10_get_X1_reaches : GoodIn wsX10_get (wsV RX10 299 RX1 yX1_reaches wsX1_reaches) := goodIn_app (goodIn_of _ (by decide +kernel)) ggX10_get_X1_reaches
theorem dX10_get_0 : decode cX10_get 0 = .ok (.iload_n 1, 1) := by decide +kernel
theorem dX10_get_1 : decode cX10_get 1 = .ok (.ifCond .lt 21, 3) := by decide +kernel
theorem dX10_get_4 : decode cX10_get 4 = .ok (.iload_n 1, 1) := by decide +kernel
theorem dX10_get_5 : decode cX10_get 5 = .ok (.iconst 3, 1) := by decide +kernel
theorem dX10_get_6 : decode cX10_get 6 = .ok (.if_icmp .ge 16, 3) := by decide +kernel
theorem dX10_get_9 : decode cX10_get 9 = .ok (.aload_n 0, 1) := by decide +kernel
theorem dX10_get_10 : decode cX10_get 10 = .ok (.getfield 77, 3) := by decide +kernel
theorem dX10_get_13 : decode cX10_get 13 = .ok (.iload_n 1, 1) := by decide +kernel
theorem dX10_get_14 : decode cX10_get 14 = .ok (.aaload, 1) := by decide +kernel
theorem dX10_get_15 : decode cX10_get 15 = .ok (.iload_n 2, 1) := by decide +kernel
theorem dX10_get_16 : decode cX10_get 16 = .ok (.invokevirtual 299, 3) := by decide +kernel
theorem dX10_get_19 : decode cX10_get 19 = .ok (.ifCond .ne 7, 3) := by decide +kernel
theorem dX10_get_22 : decode cX10_get 22 = .ok (.ldc_w 305, 3) := by decide +kernel
theorem dX10_get_25 : decode cX10_get 25 = .ok (.ireturn, 1) := by decide +kernel
theorem dX10_get_26 : decode cX10_get 26 = .ok (.aload_n 0, 1) := by decide +kernel
theorem dX10_get_27 : decode cX10_get 27 = .ok (.getfield 77, 3) := by decide +kernel
theorem dX10_get_30 : decode cX10_get 30 = .ok (.iload_n 1, 1) := by decide +kernel
theorem dX10_get_31 : decode cX10_get 31 = .ok (.aaload, 1) := by decide +kernel
theorem dX10_get_32 : decode cX10_get 32 = .ok (.getfield 302, 3) := by decide +kernel
theorem dX10_get_35 : decode cX10_get 35 = .ok (.iload_n 2, 1) := by decide +kernel
theorem dX10_get_36 : decode cX10_get 36 = .ok (.iaload, 1) := by decide +kernel
theorem dX10_get_37 : decode cX10_get 37 = .ok (.ireturn, 1) := by decide +kernel
set_option maxRecDepth 20000 in
theorem ggX10_fill_X1_isMissing : GoodIn wsX10_fill wsX1_isMissing := goodIn_r _ [15, 16, 106, 107] (by decide +kernel) (by decide +kernel)
set_option maxRecDepth 20000 in
theorem gX10_fill_X1_isMissing : GoodIn wsX10_fill (wsV RX10 295 RX1 yX1_isMissing wsX1_isMissing) := goodIn_app (goodIn_of _ (by decide +kernel)) ggX10_fill_X1_isMissing
set_option maxRecDepth 20000 in
theorem ggX10_fill_X10_readyPlan : GoodIn wsX10_fill wsX10_readyPlan := goodIn_r _ [21, 22, 23, 24, 25, 26, 27, 28, 29, 30, 31, 32, 33, 34, 35, 36, 37, 38, 39, 40, 41, 42, 43, 44, 45, 46, 47, 48, 49, 50, 51, 52, 53, 54, 55, 56, 57, 58, 59, 60, 61, 62, 63, 64, 65, 66, 67, 68, 69, 70, 71, 72, 73, 74, 75, 88, 89, 90, 91, 92, 93, 94, 95, 96, 97, 98, 99, 100, 101, 102, 103, 104, 105, 108, 109, 110, 111, 112, 113, 114, 115, 116, 117, 118, 119] (by decide +kernel) (by decide +kernel)
set_option maxRecDepth 20000 in
theorem gX10_fill_X10_readyPlan : GoodIn wsX10_fill (wsV RX10 160 RX10 yX10_readyPlan wsX10_readyPlan) := goodIn_app (goodIn_of _ (by decide +kernel)) ggX10_fill_X10_readyPlan
set_option maxRecDepth 20000 in
theorem ggX10_fill_X3_smoothOrders : GoodIn wsX10_fill wsX3_smoothOrders := goodIn_r _ [79, 60, 61, 113, 114, 115, 116, 117, 118, 119] (by decide +kernel) (by decide +kernel)
set_option maxRecDepth 20000 in
theorem gX10_fill_X3_smoothOrders : GoodIn wsX10_fill (wsV RX10 168 RX3 yX3_smoothOrders wsX3_smoothOrders) := goodIn_app (goodIn_of _ (by decide +kernel)) ggX10_fill_X3_smoothOrders
set_option maxRecDepth 20000 in
theorem ggX10_fill_X3_pick : GoodIn wsX10_fill wsX3_pick := goodIn_r _ [83, 41, 61, 70, 71, 53, 72, 73, 74, 75, 84, 85, 86, 39, 87, 60, 62, 63, 64, 65, 42, 43, 66, 67, 68, 69, 46, 44, 113, 114, 115, 116, 117, 118, 119] (by decide +kernel) (by decide +kernel)
set_option maxRecDepth 20000 in
theorem gX10_fill_X3_pick : GoodIn wsX10_fill (wsV RX10 171 RX3 yX3_pick wsX3_pick) := goodIn_app (goodIn_of _ (by decide +kernel)) ggX10_fill_X3_pick
theorem dX10_fill_0 : decode cX10_fill 0 = .ok (.iload_n 1, 1) := by decide +kernel
theorem dX10_fill_1 : decode cX10_fill 1 = .ok (.ifCond .lt 8, 3) := by decide +kernel
theorem dX10_fill_4 : decode cX10_fill 4 = .ok (.iload_n 1, 1) := by decide +kernel
theorem dX10_fill_5 : decode cX10_fill 5 = .ok (.iconst 3, 1) := by decide +kernel
theorem dX10_fill_6 : decode cX10_fill 6 = .ok (.if_icmp .lt 5, 3) := by decide +kernel
theorem dX10_fill_9 : decode cX10_fill 9 = .ok (.iconst (-1), 1) := by decide +kernel
theorem dX10_fill_10 : decode cX10_fill 10 = .ok (.ireturn, 1) := by decide +kernel
theorem dX10_fill_11 : decode cX10_fill 11 = .ok (.iload_n 2, 1) := by decide +kernel
theorem dX10_fill_12 : decode cX10_fill 12 = .ok (.ifCond .ge 6, 3) := by decide +kernel
theorem dX10_fill_15 : decode cX10_fill 15 = .ok (.bipush (-2), 2) := by decide +kernel
theorem dX10_fill_17 : decode cX10_fill 17 = .ok (.ireturn, 1) := by decide +kernel
theorem dX10_fill_18 : decode cX10_fill 18 = .ok (.aload_n 0, 1) := by decide +kernel
theorem dX10_fill_19 : decode cX10_fill 19 = .ok (.getfield 77, 3) := by decide +kernel
theorem dX10_fill_22 : decode cX10_fill 22 = .ok (.iload_n 1, 1) := by decide +kernel
theorem dX10_fill_23 : decode cX10_fill 23 = .ok (.aaload, 1) := by decide +kernel
theorem dX10_fill_24 : decode cX10_fill 24 = .ok (.astore_n 3, 1) := by decide +kernel
theorem dX10_fill_25 : decode cX10_fill 25 = .ok (.aload_n 3, 1) := by decide +kernel
theorem dX10_fill_26 : decode cX10_fill 26 = .ok (.invokevirtual 295, 3) := by decide +kernel
theorem dX10_fill_29 : decode cX10_fill 29 = .ok (.ifCond .eq 6, 3) := by decide +kernel
theorem dX10_fill_32 : decode cX10_fill 32 = .ok (.bipush (-11), 2) := by decide +kernel
theorem dX10_fill_34 : decode cX10_fill 34 = .ok (.ireturn, 1) := by decide +kernel
theorem dX10_fill_35 : decode cX10_fill 35 = .ok (.aload_n 0, 1) := by decide +kernel
theorem dX10_fill_36 : decode cX10_fill 36 = .ok (.invokevirtual 160, 3) := by decide +kernel
theorem dX10_fill_39 : decode cX10_fill 39 = .ok (.astore 4, 2) := by decide +kernel
theorem dX10_fill_41 : decode cX10_fill 41 = .ok (.iconst 0, 1) := by decide +kernel
theorem dX10_fill_42 : decode cX10_fill 42 = .ok (.aload_n 3, 1) := by decide +kernel
theorem dX10_fill_43 : decode cX10_fill 43 = .ok (.getfield 306, 3) := by decide +kernel
theorem dX10_fill_46 : decode cX10_fill 46 = .ok (.aload 4, 2) := by decide +kernel
theorem dX10_fill_48 : decode cX10_fill 48 = .ok (.invokevirtual 168, 3) := by decide +kernel
theorem dX10_fill_51 : decode cX10_fill 51 = .ok (.iload_n 2, 1) := by decide +kernel
theorem dX10_fill_52 : decode cX10_fill 52 = .ok (.isub, 1) := by decide +kernel
theorem dX10_fill_53 : decode cX10_fill 53 = .ok (.invokestatic 307, 3) := by decide +kernel
theorem dX10_fill_56 : decode cX10_fill 56 = .ok (.invokestatic 312, 3) := by decide +kernel
theorem dX10_fill_59 : decode cX10_fill 59 = .ok (.istore 5, 2) := by decide +kernel
theorem dX10_fill_61 : decode cX10_fill 61 = .ok (.iconst 0, 1) := by decide +kernel
theorem dX10_fill_62 : decode cX10_fill 62 = .ok (.istore 6, 2) := by decide +kernel
theorem dX10_fill_64 : decode cX10_fill 64 = .ok (.iload 6, 2) := by decide +kernel
theorem dX10_fill_66 : decode cX10_fill 66 = .ok (.iload 5, 2) := by decide +kernel
theorem dX10_fill_68 : decode cX10_fill 68 = .ok (.if_icmp .ge 25, 3) := by decide +kernel
theorem dX10_fill_71 : decode cX10_fill 71 = .ok (.aload_n 3, 1) := by decide +kernel
theorem dX10_fill_72 : decode cX10_fill 72 = .ok (.getfield 302, 3) := by decide +kernel
theorem dX10_fill_75 : decode cX10_fill 75 = .ok (.iload 6, 2) := by decide +kernel
theorem dX10_fill_77 : decode cX10_fill 77 = .ok (.aload 4, 2) := by decide +kernel
theorem dX10_fill_79 : decode cX10_fill 79 = .ok (.iload_n 2, 1) := by decide +kernel
theorem dX10_fill_80 : decode cX10_fill 80 = .ok (.iload 6, 2) := by decide +kernel
theorem dX10_fill_82 : decode cX10_fill 82 = .ok (.iadd, 1) := by decide +kernel
theorem dX10_fill_83 : decode cX10_fill 83 = .ok (.invokevirtual 171, 3) := by decide +kernel
theorem dX10_fill_86 : decode cX10_fill 86 = .ok (.iastore, 1) := by decide +kernel
theorem dX10_fill_87 : decode cX10_fill 87 = .ok (.iinc 6 1, 3) := by decide +kernel
theorem dX10_fill_90 : decode cX10_fill 90 = .ok (.goto (-26), 3) := by decide +kernel
theorem dX10_fill_93 : decode cX10_fill 93 = .ok (.iload 5, 2) := by decide +kernel
theorem dX10_fill_95 : decode cX10_fill 95 = .ok (.ireturn, 1) := by decide +kernel
set_option maxRecDepth 20000 in
theorem ggX10_judge_X1_isMissing : GoodIn wsX10_judge wsX1_isMissing := goodIn_r _ [8, 9, 121, 122] (by decide +kernel) (by decide +kernel)
set_option maxRecDepth 20000 in
theorem gX10_judge_X1_isMissing : GoodIn wsX10_judge (wsV RX10 295 RX1 yX1_isMissing wsX1_isMissing) := goodIn_app (goodIn_of _ (by decide +kernel)) ggX10_judge_X1_isMissing
set_option maxRecDepth 20000 in
theorem ggX10_judge_X10_passes : GoodIn wsX10_judge wsX10_passes := goodIn_r _ [14, 15, 16, 17, 18, 19, 20, 13, 21, 22, 23, 24, 25, 26, 27, 28, 29, 30, 31, 32, 33, 34, 35, 36, 37, 38, 39, 40, 41, 42, 43, 44, 45, 46, 47, 48, 49, 50, 51, 52, 53, 54, 55, 56, 57, 58, 59, 60, 61, 62, 63, 64, 65, 66, 67, 68, 69, 70, 71, 72, 73, 74, 75, 76, 77, 78, 79, 80, 81, 82, 83, 84, 85, 86, 87, 88, 89, 90, 91, 92, 93, 94, 95, 96, 97, 98, 99, 100, 101, 102, 103, 104, 105, 106, 107, 108, 109, 110, 111, 112, 113, 114, 115, 116, 117, 118, 119, 120, 123, 124, 125, 126, 127, 128, 129, 130, 131, 132, 133, 134] (by decide +kernel) (by decide +kernel)
set_option maxRecDepth 20000 in
theorem gX10_judge_X10_passes : GoodIn wsX10_judge (wsV RX10 315 RX10 yX10_passes wsX10_passes) := goodIn_app (goodIn_of _ (by decide +kernel)) ggX10_judge_X10_passes
theorem dX10_judge_0 : decode cX10_judge 0 = .ok (.iload_n 1, 1) := by decide +kernel
theorem dX10_judge_1 : decode cX10_judge 1 = .ok (.ifCond .lt 8, 3) := by decide +kernel
theorem dX10_judge_4 : decode cX10_judge 4 = .ok (.iload_n 1, 1) := by decide +kernel
theorem dX10_judge_5 : decode cX10_judge 5 = .ok (.iconst 3, 1) := by decide +kernel
theorem dX10_judge_6 : decode cX10_judge 6 = .ok (.if_icmp .lt 5, 3) := by decide +kernel
theorem dX10_judge_9 : decode cX10_judge 9 = .ok (.iconst (-1), 1) := by decide +kernel
theorem dX10_judge_10 : decode cX10_judge 10 = .ok (.ireturn, 1) := by decide +kernel
theorem dX10_judge_11 : decode cX10_judge 11 = .ok (.iload_n 2, 1) := by decide +kernel
theorem dX10_judge_12 : decode cX10_judge 12 = .ok (.ifCond .lt 8, 3) := by decide +kernel
theorem dX10_judge_15 : decode cX10_judge 15 = .ok (.iload_n 2, 1) := by decide +kernel
theorem dX10_judge_16 : decode cX10_judge 16 = .ok (.iconst 2, 1) := by decide +kernel
theorem dX10_judge_17 : decode cX10_judge 17 = .ok (.if_icmp .le 6, 3) := by decide +kernel
theorem dX10_judge_20 : decode cX10_judge 20 = .ok (.bipush (-2), 2) := by decide +kernel
theorem dX10_judge_22 : decode cX10_judge 22 = .ok (.ireturn, 1) := by decide +kernel
theorem dX10_judge_23 : decode cX10_judge 23 = .ok (.aload_n 0, 1) := by decide +kernel
theorem dX10_judge_24 : decode cX10_judge 24 = .ok (.getfield 77, 3) := by decide +kernel
theorem dX10_judge_27 : decode cX10_judge 27 = .ok (.iload_n 1, 1) := by decide +kernel
theorem dX10_judge_28 : decode cX10_judge 28 = .ok (.aaload, 1) := by decide +kernel
theorem dX10_judge_29 : decode cX10_judge 29 = .ok (.astore_n 3, 1) := by decide +kernel
theorem dX10_judge_30 : decode cX10_judge 30 = .ok (.aload_n 3, 1) := by decide +kernel
theorem dX10_judge_31 : decode cX10_judge 31 = .ok (.invokevirtual 295, 3) := by decide +kernel
theorem dX10_judge_34 : decode cX10_judge 34 = .ok (.ifCond .eq 6, 3) := by decide +kernel
theorem dX10_judge_37 : decode cX10_judge 37 = .ok (.bipush (-11), 2) := by decide +kernel
theorem dX10_judge_39 : decode cX10_judge 39 = .ok (.ireturn, 1) := by decide +kernel
theorem dX10_judge_40 : decode cX10_judge 40 = .ok (.iconst 0, 1) := by decide +kernel
theorem dX10_judge_41 : decode cX10_judge 41 = .ok (.istore 4, 2) := by decide +kernel
theorem dX10_judge_43 : decode cX10_judge 43 = .ok (.iload 4, 2) := by decide +kernel
theorem dX10_judge_45 : decode cX10_judge 45 = .ok (.aload_n 3, 1) := by decide +kernel
theorem dX10_judge_46 : decode cX10_judge 46 = .ok (.getfield 306, 3) := by decide +kernel
theorem dX10_judge_49 : decode cX10_judge 49 = .ok (.if_icmp .ge 29, 3) := by decide +kernel
theorem dX10_judge_52 : decode cX10_judge 52 = .ok (.aload_n 0, 1) := by decide +kernel
theorem dX10_judge_53 : decode cX10_judge 53 = .ok (.aload_n 3, 1) := by decide +kernel
theorem dX10_judge_54 : decode cX10_judge 54 = .ok (.getfield 302, 3) := by decide +kernel
theorem dX10_judge_57 : decode cX10_judge 57 = .ok (.iload 4, 2) := by decide +kernel
theorem dX10_judge_59 : decode cX10_judge 59 = .ok (.iaload, 1) := by decide +kernel
theorem dX10_judge_60 : decode cX10_judge 60 = .ok (.iload 4, 2) := by decide +kernel
theorem dX10_judge_62 : decode cX10_judge 62 = .ok (.iload_n 2, 1) := by decide +kernel
theorem dX10_judge_63 : decode cX10_judge 63 = .ok (.invokevirtual 315, 3) := by decide +kernel
theorem dX10_judge_66 : decode cX10_judge 66 = .ok (.ifCond .ne 6, 3) := by decide +kernel
theorem dX10_judge_69 : decode cX10_judge 69 = .ok (.iload 4, 2) := by decide +kernel
theorem dX10_judge_71 : decode cX10_judge 71 = .ok (.ireturn, 1) := by decide +kernel
theorem dX10_judge_72 : decode cX10_judge 72 = .ok (.iinc 4 1, 3) := by decide +kernel
theorem dX10_judge_75 : decode cX10_judge 75 = .ok (.goto (-32), 3) := by decide +kernel
theorem dX10_judge_78 : decode cX10_judge 78 = .ok (.bipush (-5), 2) := by decide +kernel
theorem dX10_judge_80 : decode cX10_judge 80 = .ok (.ireturn, 1) := by decide +kernel
set_option maxRecDepth 20000 in
theorem ggX10_passes_X10_setRow : GoodIn wsX10_passes wsX10_setRow := goodIn_r _ [8, 2, 3, 1, 9, 10, 11, 12, 13, 14, 90, 91, 92, 93, 94, 95, 96, 97, 98, 99, 100, 101, 102, 103, 104, 105, 106, 107, 108, 109, 110, 111, 112] (by decide +kernel) (by decide +kernel)
set_option maxRecDepth 20000 in
theorem gX10_passes_X10_setRow : GoodIn wsX10_passes (wsV RX10 230 RX10 yX10_setRow wsX10_setRow) := goodIn_app (goodIn_of _ (by decide +kernel)) ggX10_passes_X10_setRow
set_option maxRecDepth 20000 in
theorem ggX10_passes_X10_rowGaps : GoodIn wsX10_passes wsX10_rowGaps := goodIn_r _ [18, 2, 19, 20, 21, 22, 7, 23, 3, 1, 24, 25, 26, 12, 27, 28, 29, 10, 11, 13, 14, 90, 91, 92, 93, 94, 95, 96, 97, 98, 99, 100, 101, 102, 103, 104, 105, 106, 107, 108, 109, 110, 111, 112] (by decide +kernel) (by decide +kernel)
set_option maxRecDepth 20000 in
theorem gX10_passes_X10_rowGaps : GoodIn wsX10_passes (wsV RX10 233 RX10 yX10_rowGaps wsX10_rowGaps) := goodIn_app (goodIn_of _ (by decide +kernel)) ggX10_passes_X10_rowGaps
set_option maxRecDepth 20000 in
theorem ggX10_passes_X10_readyPlan : GoodIn wsX10_passes wsX10_readyPlan := goodIn_r _ [33, 34, 35, 2, 36, 37, 38, 12, 39, 14, 40, 41, 42, 43, 44, 45, 46, 47, 48, 49, 50, 51, 52, 53, 54, 55, 56, 10, 11, 13, 57, 58, 59, 60, 61, 62, 63, 64, 65, 66, 67, 68, 69, 70, 71, 72, 73, 74, 75, 76, 77, 78, 79, 80, 81, 90, 91, 92, 93, 94, 95, 96, 97, 98, 99, 100, 101, 102, 103, 104, 105, 106, 107, 108, 109, 110, 111, 112, 113, 114, 115, 116, 117, 118, 119] (by decide +kernel) (by decide +kernel)
set_option maxRecDepth 20000 in
theorem gX10_passes_X10_readyPlan : GoodIn wsX10_passes (wsV RX10 160 RX10 yX10_readyPlan wsX10_readyPlan) := goodIn_app (goodIn_of _ (by decide +kernel)) ggX10_passes_X10_readyPlan
set_option maxRecDepth 20000 in
theorem ggX10_passes_X3_ahead : GoodIn wsX10_passes wsX3_ahead := goodIn_r _ [85, 66, 67, 86, 87, 88, 48, 89, 68, 69, 70, 71, 50, 51, 52, 72, 73, 74, 75, 55, 53, 76, 77, 59, 78, 79, 80, 81, 113, 114, 115, 116, 117, 118, 119] (by decide +kernel) (by decide +kernel)
set_option maxRecDepth 20000 in
theorem gX10_passes_X3_ahead : GoodIn wsX10_passes (wsV RX10 258 RX3 yX3_ahead wsX3_ahead) := goodIn_app (goodIn_of _ (by decide +kernel)) ggX10_passes_X3_ahead
theorem dX10_passes_0 : decode cX10_passes 0 = .ok (.aload_n 0, 1) := by decide +kernel
theorem dX10_passes_1 : decode cX10_passes 1 = .ok (.iload_n 1, 1) := by decide +kernel
theorem dX10_passes_2 : decode cX10_passes 2 = .ok (.invokevirtual 230, 3) := by decide +kernel
theorem dX10_passes_5 : decode cX10_passes 5 = .ok (.ifCond .ne 5, 3) := by decide +kernel
theorem dX10_passes_8 : decode cX10_passes 8 = .ok (.iconst 0, 1) := by decide +kernel
theorem dX10_passes_9 : decode cX10_passes 9 = .ok (.ireturn, 1) := by decide +kernel
theorem dX10_passes_10 : decode cX10_passes 10 = .ok (.iload_n 3, 1) := by decide +kernel
theorem dX10_passes_11 : decode cX10_passes 11 = .ok (.lookupswitch 40 #[(0, 25), (1, 27)], 25) := by decide +kernel
theorem dX10_passes_36 : decode cX10_passes 36 = .ok (.iconst 1, 1) := by decide +kernel
theorem dX10_passes_37 : decode cX10_passes 37 = .ok (.ireturn, 1) := by decide +kernel
theorem dX10_passes_38 : decode cX10_passes 38 = .ok (.aload_n 0, 1) := by decide +kernel
theorem dX10_passes_39 : decode cX10_passes 39 = .ok (.invokevirtual 233, 3) := by decide +kernel
theorem dX10_passes_42 : decode cX10_passes 42 = .ok (.ifCond .ne 7, 3) := by decide +kernel
theorem dX10_passes_45 : decode cX10_passes 45 = .ok (.iconst 1, 1) := by decide +kernel
theorem dX10_passes_46 : decode cX10_passes 46 = .ok (.goto 4, 3) := by decide +kernel
theorem dX10_passes_49 : decode cX10_passes 49 = .ok (.iconst 0, 1) := by decide +kernel
theorem dX10_passes_50 : decode cX10_passes 50 = .ok (.ireturn, 1) := by decide +kernel
theorem dX10_passes_51 : decode cX10_passes 51 = .ok (.aload_n 0, 1) := by decide +kernel
theorem dX10_passes_52 : decode cX10_passes 52 = .ok (.invokevirtual 233, 3) := by decide +kernel
theorem dX10_passes_55 : decode cX10_passes 55 = .ok (.ifCond .ne 29, 3) := by decide +kernel
theorem dX10_passes_58 : decode cX10_passes 58 = .ok (.aload_n 0, 1) := by decide +kernel
theorem dX10_passes_59 : decode cX10_passes 59 = .ok (.invokevirtual 160, 3) := by decide +kernel
theorem dX10_passes_62 : decode cX10_passes 62 = .ok (.aload_n 0, 1) := by decide +kernel
theorem dX10_passes_63 : decode cX10_passes 63 = .ok (.getfield 81, 3) := by decide +kernel
theorem dX10_passes_66 : decode cX10_passes 66 = .ok (.aload_n 0, 1) := by decide +kernel
theorem dX10_passes_67 : decode cX10_passes 67 = .ok (.getfield 14, 3) := by decide +kernel
theorem dX10_passes_70 : decode cX10_passes 70 = .ok (.getfield 140, 3) := by decide +kernel
theorem dX10_passes_73 : decode cX10_passes 73 = .ok (.invokevirtual 258, 3) := by decide +kernel
theorem dX10_passes_76 : decode cX10_passes 76 = .ok (.iload_n 2, 1) := by decide +kernel
theorem dX10_passes_77 : decode cX10_passes 77 = .ok (.if_icmp .ne 7, 3) := by decide +kernel
theorem dX10_passes_80 : decode cX10_passes 80 = .ok (.iconst 1, 1) := by decide +kernel
theorem dX10_passes_81 : decode cX10_passes 81 = .ok (.goto 4, 3) := by decide +kernel
theorem dX10_passes_84 : decode cX10_passes 84 = .ok (.iconst 0, 1) := by decide +kernel
theorem dX10_passes_85 : decode cX10_passes 85 = .ok (.ireturn, 1) := by decide +kernel
set_option maxRecDepth 20000 in
theorem ggX10_image_X5_become : GoodIn wsX10_image wsX5_become := goodIn_r _ [9, 10, 11, 12, 13, 14, 15, 16, 17, 18, 37, 38, 39, 40, 41] (by decide +kernel) (by decide +kernel)
set_option maxRecDepth 20000 in
theorem gX10_image_X5_become : GoodIn wsX10_image (wsV RX10 265 RX5 yX5_become wsX5_become) := goodIn_app (goodIn_of _ (by decide +kernel)) ggX10_image_X5_become
theorem dX10_image_0 : decode cX10_image 0 = .ok (.aload_n 0, 1) := by decide +kernel
theorem dX10_image_1 : decode cX10_image 1 = .ok (.getfield 18, 3) := by decide +kernel
theorem dX10_image_4 : decode cX10_image 4 = .ok (.aload_n 0, 1) := by decide +kernel
theorem dX10_image_5 : decode cX10_image 5 = .ok (.getfield 14, 3) := by decide +kernel
theorem dX10_image_8 : decode cX10_image 8 = .ok (.invokevirtual 265, 3) := by decide +kernel
theorem dX10_image_11 : decode cX10_image 11 = .ok (.aload_n 0, 1) := by decide +kernel
theorem dX10_image_12 : decode cX10_image 12 = .ok (.iconst 1, 1) := by decide +kernel
theorem dX10_image_13 : decode cX10_image 13 = .ok (.putfield 319, 3) := by decide +kernel
theorem dX10_image_16 : decode cX10_image 16 = .ok (.aload_n 0, 1) := by decide +kernel
theorem dX10_image_17 : decode cX10_image 17 = .ok (.getfield 14, 3) := by decide +kernel
theorem dX10_image_20 : decode cX10_image 20 = .ok (.getfield 140, 3) := by decide +kernel
theorem dX10_image_23 : decode cX10_image 23 = .ok (.ireturn, 1) := by decide +kernel
set_option maxRecDepth 20000 in
theorem ggX10_undo_X5_become : GoodIn wsX10_undo wsX5_become := goodIn_r _ [9, 10, 11, 12, 13, 14, 15, 16, 17, 18, 45, 46, 47, 48, 49] (by decide +kernel) (by decide +kernel)
set_option maxRecDepth 20000 in
theorem gX10_undo_X5_become : GoodIn wsX10_undo (wsV RX10 265 RX5 yX5_become wsX5_become) := goodIn_app (goodIn_of _ (by decide +kernel)) ggX10_undo_X5_become
set_option maxRecDepth 20000 in
theorem ggX10_undo_X10_siteChanged : GoodIn wsX10_undo wsX10_siteChanged := goodIn_r _ [23, 24, 25, 26, 27, 28, 29, 30, 31, 32, 33, 34, 35, 36, 37, 38, 39, 40, 41, 42, 43, 44] (by decide +kernel) (by decide +kernel)
set_option maxRecDepth 20000 in
theorem gX10_undo_X10_siteChanged : GoodIn wsX10_undo (wsV RX10 91 RX10 yX10_siteChanged wsX10_siteChanged) := goodIn_app (goodIn_of _ (by decide +kernel)) ggX10_undo_X10_siteChanged
theorem dX10_undo_0 : decode cX10_undo 0 = .ok (.aload_n 0, 1) := by decide +kernel
theorem dX10_undo_1 : decode cX10_undo 1 = .ok (.getfield 319, 3) := by decide +kernel
theorem dX10_undo_4 : decode cX10_undo 4 = .ok (.ifCond .ne 6, 3) := by decide +kernel
theorem dX10_undo_7 : decode cX10_undo 7 = .ok (.bipush (-3), 2) := by decide +kernel
theorem dX10_undo_9 : decode cX10_undo 9 = .ok (.ireturn, 1) := by decide +kernel
theorem dX10_undo_10 : decode cX10_undo 10 = .ok (.aload_n 0, 1) := by decide +kernel
theorem dX10_undo_11 : decode cX10_undo 11 = .ok (.getfield 14, 3) := by decide +kernel
theorem dX10_undo_14 : decode cX10_undo 14 = .ok (.aload_n 0, 1) := by decide +kernel
theorem dX10_undo_15 : decode cX10_undo 15 = .ok (.getfield 18, 3) := by decide +kernel
theorem dX10_undo_18 : decode cX10_undo 18 = .ok (.invokevirtual 265, 3) := by decide +kernel
theorem dX10_undo_21 : decode cX10_undo 21 = .ok (.aload_n 0, 1) := by decide +kernel
theorem dX10_undo_22 : decode cX10_undo 22 = .ok (.invokevirtual 91, 3) := by decide +kernel
theorem dX10_undo_25 : decode cX10_undo 25 = .ok (.aload_n 0, 1) := by decide +kernel
theorem dX10_undo_26 : decode cX10_undo 26 = .ok (.getfield 14, 3) := by decide +kernel
theorem dX10_undo_29 : decode cX10_undo 29 = .ok (.getfield 140, 3) := by decide +kernel
theorem dX10_undo_32 : decode cX10_undo 32 = .ok (.ireturn, 1) := by decide +kernel
theorem dX10_siteChanged_0 : decode cX10_siteChanged 0 = .ok (.aload_n 0, 1) := by decide +kernel
theorem dX10_siteChanged_1 : decode cX10_siteChanged 1 = .ok (.iconst 0, 1) := by decide +kernel
theorem dX10_siteChanged_2 : decode cX10_siteChanged 2 = .ok (.putfield 322, 3) := by decide +kernel
theorem dX10_siteChanged_5 : decode cX10_siteChanged 5 = .ok (.aload_n 0, 1) := by decide +kernel
theorem dX10_siteChanged_6 : decode cX10_siteChanged 6 = .ok (.iconst 0, 1) := by decide +kernel
theorem dX10_siteChanged_7 : decode cX10_siteChanged 7 = .ok (.putfield 325, 3) := by decide +kernel
theorem dX10_siteChanged_10 : decode cX10_siteChanged 10 = .ok (.aload_n 0, 1) := by decide +kernel
theorem dX10_siteChanged_11 : decode cX10_siteChanged 11 = .ok (.iconst 0, 1) := by decide +kernel
theorem dX10_siteChanged_12 : decode cX10_siteChanged 12 = .ok (.putfield 328, 3) := by decide +kernel
theorem dX10_siteChanged_15 : decode cX10_siteChanged 15 = .ok (.return_, 1) := by decide +kernel
set_option maxRecDepth 20000 in
theorem ggX10_readyPlan_X5_everybody : GoodIn wsX10_readyPlan wsX5_everybody := goodIn_r _ [8, 9, 73, 74, 75, 76, 77] (by decide +kernel) (by decide +kernel)
set_option maxRecDepth 20000 in
theorem gX10_readyPlan_X5_everybody : GoodIn wsX10_readyPlan (wsV RX10 180 RX5 yX5_everybody wsX5_everybody) := goodIn_app (goodIn_of _ (by decide +kernel)) ggX10_readyPlan_X5_everybody
set_option maxRecDepth 20000 in
theorem ggX10_readyPlan_X5_everything : GoodIn wsX10_readyPlan wsX5_everything := goodIn_r _ [13, 14, 73, 74, 75, 76, 77] (by decide +kernel) (by decide +kernel)
set_option maxRecDepth 20000 in
theorem gX10_readyPlan_X5_everything : GoodIn wsX10_readyPlan (wsV RX10 183 RX5 yX5_everything wsX5_everything) := goodIn_app (goodIn_of _ (by decide +kernel)) ggX10_readyPlan_X5_everything
set_option maxRecDepth 20000 in
theorem ggX10_readyPlan_X3_make : GoodIn wsX10_readyPlan wsX3_make := goodIn_r _ [19, 20, 21, 22, 23, 24, 25, 26, 27, 28, 7, 29, 9, 30, 31, 32, 33, 34, 35, 36, 37, 18, 38, 39, 40, 41, 42, 43, 44, 45, 46, 47, 48, 49, 50, 51, 52, 53, 54, 78, 79, 80, 81, 82, 83, 84, 73, 74, 75, 76, 77] (by decide +kernel) (by decide +kernel)
set_option maxRecDepth 20000 in
theorem gX10_readyPlan_X3_make : GoodIn wsX10_readyPlan (wsV RX10 186 RX3 yX3_make wsX3_make) := goodIn_app (goodIn_of _ (by decide +kernel)) ggX10_readyPlan_X3_make
theorem dX10_readyPlan_0 : decode cX10_readyPlan 0 = .ok (.aload_n 0, 1) := by decide +kernel
theorem dX10_readyPlan_1 : decode cX10_readyPlan 1 = .ok (.getfield 322, 3) := by decide +kernel
theorem dX10_readyPlan_4 : decode cX10_readyPlan 4 = .ok (.ifCond .ne 35, 3) := by decide +kernel
theorem dX10_readyPlan_7 : decode cX10_readyPlan 7 = .ok (.aload_n 0, 1) := by decide +kernel
theorem dX10_readyPlan_8 : decode cX10_readyPlan 8 = .ok (.getfield 27, 3) := by decide +kernel
theorem dX10_readyPlan_11 : decode cX10_readyPlan 11 = .ok (.aload_n 0, 1) := by decide +kernel
theorem dX10_readyPlan_12 : decode cX10_readyPlan 12 = .ok (.getfield 14, 3) := by decide +kernel
theorem dX10_readyPlan_15 : decode cX10_readyPlan 15 = .ok (.aload_n 0, 1) := by decide +kernel
theorem dX10_readyPlan_16 : decode cX10_readyPlan 16 = .ok (.getfield 14, 3) := by decide +kernel
theorem dX10_readyPlan_19 : decode cX10_readyPlan 19 = .ok (.invokevirtual 180, 3) := by decide +kernel
theorem dX10_readyPlan_22 : decode cX10_readyPlan 22 = .ok (.aload_n 0, 1) := by decide +kernel
theorem dX10_readyPlan_23 : decode cX10_readyPlan 23 = .ok (.getfield 14, 3) := by decide +kernel
theorem dX10_readyPlan_26 : decode cX10_readyPlan 26 = .ok (.invokevirtual 183, 3) := by decide +kernel
theorem dX10_readyPlan_29 : decode cX10_readyPlan 29 = .ok (.iconst (-1), 1) := by decide +kernel
theorem dX10_readyPlan_30 : decode cX10_readyPlan 30 = .ok (.iconst (-1), 1) := by decide +kernel
theorem dX10_readyPlan_31 : decode cX10_readyPlan 31 = .ok (.invokevirtual 186, 3) := by decide +kernel
theorem dX10_readyPlan_34 : decode cX10_readyPlan 34 = .ok (.aload_n 0, 1) := by decide +kernel
theorem dX10_readyPlan_35 : decode cX10_readyPlan 35 = .ok (.iconst 1, 1) := by decide +kernel
theorem dX10_readyPlan_36 : decode cX10_readyPlan 36 = .ok (.putfield 322, 3) := by decide +kernel
theorem dX10_readyPlan_39 : decode cX10_readyPlan 39 = .ok (.aload_n 0, 1) := by decide +kernel
theorem dX10_readyPlan_40 : decode cX10_readyPlan 40 = .ok (.getfield 27, 3) := by decide +kernel
theorem dX10_readyPlan_43 : decode cX10_readyPlan 43 = .ok (.areturn, 1) := by decide +kernel
set_option maxRecDepth 20000 in
theorem ggX10_readyTree_X10_readyPlan : GoodIn wsX10_readyTree wsX10_readyPlan := goodIn_r _ [7, 8, 9, 10, 11, 12, 13, 14, 15, 16, 17, 18, 19, 20, 21, 22, 23, 24, 25, 26, 27, 28, 29, 30, 31, 32, 33, 34, 35, 36, 37, 38, 39, 40, 41, 42, 43, 44, 45, 46, 47, 48, 49, 50, 51, 52, 53, 54, 55, 56, 57, 58, 59, 60, 61, 110, 111, 112, 113, 114, 115, 116, 117, 118, 119, 120, 121, 122, 123, 124, 125, 126, 127, 128, 129, 130, 131, 132, 133, 134, 135, 136, 137, 138, 139] (by decide +kernel) (by decide +kernel)
set_option maxRecDepth 20000 in
theorem gX10_readyTree_X10_readyPlan : GoodIn wsX10_readyTree (wsV RX10 160 RX10 yX10_readyPlan wsX10_readyPlan) := goodIn_app (goodIn_of _ (by decide +kernel)) ggX10_readyTree_X10_readyPlan
set_option maxRecDepth 20000 in
theorem ggX10_readyTree_X9_make : GoodIn wsX10_readyTree wsX9_make := goodIn_r _ [66, 67, 68, 69, 70, 71, 72, 73, 74, 75, 65, 76, 77, 78, 79, 80, 81, 82, 25, 83, 46, 48, 49, 50, 51, 27, 28, 29, 52, 53, 54, 55, 32, 30, 56, 57, 39, 58, 59, 60, 61, 84, 85, 86, 87, 88, 89, 90, 91, 92, 93, 94, 95, 96, 97, 98, 99, 100, 101, 102, 103, 104, 105, 106, 107, 108, 109, 133, 134, 135, 136, 137, 138, 139, 140, 141, 142, 143, 144, 145, 146, 147, 148] (by decide +kernel) (by decide +kernel)
set_option maxRecDepth 20000 in
theorem gX10_readyTree_X9_make : GoodIn wsX10_readyTree (wsV RX10 331 RX9 yX9_make wsX9_make) := goodIn_app (goodIn_of _ (by decide +kernel)) ggX10_readyTree_X9_make
theorem dX10_readyTree_0 : decode cX10_readyTree 0 = .ok (.aload_n 0, 1) := by decide +kernel
theorem dX10_readyTree_1 : decode cX10_readyTree 1 = .ok (.getfield 325, 3) := by decide +kernel
theorem dX10_readyTree_4 : decode cX10_readyTree 4 = .ok (.ifCond .ne 19, 3) := by decide +kernel
theorem dX10_readyTree_7 : decode cX10_readyTree 7 = .ok (.aload_n 0, 1) := by decide +kernel
theorem dX10_readyTree_8 : decode cX10_readyTree 8 = .ok (.getfield 51, 3) := by decide +kernel
theorem dX10_readyTree_11 : decode cX10_readyTree 11 = .ok (.aload_n 0, 1) := by decide +kernel
theorem dX10_readyTree_12 : decode cX10_readyTree 12 = .ok (.invokevirtual 160, 3) := by decide +kernel
theorem dX10_readyTree_15 : decode cX10_readyTree 15 = .ok (.invokevirtual 331, 3) := by decide +kernel
theorem dX10_readyTree_18 : decode cX10_readyTree 18 = .ok (.aload_n 0, 1) := by decide +kernel
theorem dX10_readyTree_19 : decode cX10_readyTree 19 = .ok (.iconst 1, 1) := by decide +kernel
theorem dX10_readyTree_20 : decode cX10_readyTree 20 = .ok (.putfield 325, 3) := by decide +kernel
theorem dX10_readyTree_23 : decode cX10_readyTree 23 = .ok (.aload_n 0, 1) := by decide +kernel
theorem dX10_readyTree_24 : decode cX10_readyTree 24 = .ok (.getfield 51, 3) := by decide +kernel
theorem dX10_readyTree_27 : decode cX10_readyTree 27 = .ok (.areturn, 1) := by decide +kernel
set_option maxRecDepth 20000 in
theorem ggX10_readySheet_X4_write : GoodIn wsX10_readySheet wsX4_write := goodIn_r _ [8, 9, 10, 11, 12, 13, 14, 7, 15, 16, 17, 18, 19, 20, 21, 22, 23, 24, 25, 26, 27, 28, 29, 30, 31, 32, 33, 34, 35, 36, 37, 38, 39, 40, 41, 42, 43, 44, 45, 46, 47, 48, 49, 50, 51, 70, 71, 72, 73, 74, 75, 76] (by decide +kernel) (by decide +kernel)
set_option maxRecDepth 20000 in
theorem gX10_readySheet_X4_write : GoodIn wsX10_readySheet (wsV RX10 334 RX4 yX4_write wsX4_write) := goodIn_app (goodIn_of _ (by decide +kernel)) ggX10_readySheet_X4_write
theorem dX10_readySheet_0 : decode cX10_readySheet 0 = .ok (.aload_n 0, 1) := by decide +kernel
theorem dX10_readySheet_1 : decode cX10_readySheet 1 = .ok (.getfield 328, 3) := by decide +kernel
theorem dX10_readySheet_4 : decode cX10_readySheet 4 = .ok (.ifCond .ne 19, 3) := by decide +kernel
theorem dX10_readySheet_7 : decode cX10_readySheet 7 = .ok (.aload_n 0, 1) := by decide +kernel
theorem dX10_readySheet_8 : decode cX10_readySheet 8 = .ok (.getfield 65, 3) := by decide +kernel
theorem dX10_readySheet_11 : decode cX10_readySheet 11 = .ok (.aload_n 0, 1) := by decide +kernel
theorem dX10_readySheet_12 : decode cX10_readySheet 12 = .ok (.getfield 14, 3) := by decide +kernel
theorem dX10_readySheet_15 : decode cX10_readySheet 15 = .ok (.invokevirtual 334, 3) := by decide +kernel
theorem dX10_readySheet_18 : decode cX10_readySheet 18 = .ok (.aload_n 0, 1) := by decide +kernel
theorem dX10_readySheet_19 : decode cX10_readySheet 19 = .ok (.iconst 1, 1) := by decide +kernel
theorem dX10_readySheet_20 : decode cX10_readySheet 20 = .ok (.putfield 328, 3) := by decide +kernel
theorem dX10_readySheet_23 : decode cX10_readySheet 23 = .ok (.aload_n 0, 1) := by decide +kernel
theorem dX10_readySheet_24 : decode cX10_readySheet 24 = .ok (.getfield 65, 3) := by decide +kernel
theorem dX10_readySheet_27 : decode cX10_readySheet 27 = .ok (.areturn, 1) := by decide +kernel
set_option maxRecDepth 20000 in
theorem ggX10_setRow_X5_holds : GoodIn wsX10_setRow wsX5_holds := goodIn_r _ [8, 9, 28, 29, 30, 31, 32] (by decide +kernel) (by decide +kernel)
set_option maxRecDepth 20000 in
theorem gX10_setRow_X5_holds : GoodIn wsX10_setRow (wsV RX10 94 RX5 yX5_holds wsX5_holds) := goodIn_app (goodIn_of _ (by decide +kernel)) ggX10_setRow_X5_holds
theorem dX10_setRow_0 : decode cX10_setRow 0 = .ok (.iload_n 1, 1) := by decide +kernel
theorem dX10_setRow_1 : decode cX10_setRow 1 = .ok (.istore_n 2, 1) := by decide +kernel
theorem dX10_setRow_2 : decode cX10_setRow 2 = .ok (.iconst 0, 1) := by decide +kernel
theorem dX10_setRow_3 : decode cX10_setRow 3 = .ok (.istore_n 3, 1) := by decide +kernel
theorem dX10_setRow_4 : decode cX10_setRow 4 = .ok (.aload_n 0, 1) := by decide +kernel
theorem dX10_setRow_5 : decode cX10_setRow 5 = .ok (.getfield 14, 3) := by decide +kernel
theorem dX10_setRow_8 : decode cX10_setRow 8 = .ok (.getfield 140, 3) := by decide +kernel
theorem dX10_setRow_11 : decode cX10_setRow 11 = .ok (.iconst 1, 1) := by decide +kernel
theorem dX10_setRow_12 : decode cX10_setRow 12 = .ok (.isub, 1) := by decide +kernel
theorem dX10_setRow_13 : decode cX10_setRow 13 = .ok (.istore 4, 2) := by decide +kernel
theorem dX10_setRow_15 : decode cX10_setRow 15 = .ok (.iload 4, 2) := by decide +kernel
theorem dX10_setRow_17 : decode cX10_setRow 17 = .ok (.ifCond .lt 61, 3) := by decide +kernel
theorem dX10_setRow_20 : decode cX10_setRow 20 = .ok (.iload_n 2, 1) := by decide +kernel
theorem dX10_setRow_21 : decode cX10_setRow 21 = .ok (.bipush 10, 2) := by decide +kernel
theorem dX10_setRow_23 : decode cX10_setRow 23 = .ok (.irem, 1) := by decide +kernel
theorem dX10_setRow_24 : decode cX10_setRow 24 = .ok (.iconst 1, 1) := by decide +kernel
theorem dX10_setRow_25 : decode cX10_setRow 25 = .ok (.isub, 1) := by decide +kernel
theorem dX10_setRow_26 : decode cX10_setRow 26 = .ok (.istore 5, 2) := by decide +kernel
theorem dX10_setRow_28 : decode cX10_setRow 28 = .ok (.iload_n 2, 1) := by decide +kernel
theorem dX10_setRow_29 : decode cX10_setRow 29 = .ok (.bipush 10, 2) := by decide +kernel
theorem dX10_setRow_31 : decode cX10_setRow 31 = .ok (.idiv, 1) := by decide +kernel
theorem dX10_setRow_32 : decode cX10_setRow 32 = .ok (.istore_n 2, 1) := by decide +kernel
theorem dX10_setRow_33 : decode cX10_setRow 33 = .ok (.aload_n 0, 1) := by decide +kernel
theorem dX10_setRow_34 : decode cX10_setRow 34 = .ok (.getfield 14, 3) := by decide +kernel
theorem dX10_setRow_37 : decode cX10_setRow 37 = .ok (.iload 5, 2) := by decide +kernel
theorem dX10_setRow_39 : decode cX10_setRow 39 = .ok (.invokevirtual 94, 3) := by decide +kernel
theorem dX10_setRow_42 : decode cX10_setRow 42 = .ok (.ifCond .eq 12, 3) := by decide +kernel
theorem dX10_setRow_45 : decode cX10_setRow 45 = .ok (.iload_n 3, 1) := by decide +kernel
theorem dX10_setRow_46 : decode cX10_setRow 46 = .ok (.iload 5, 2) := by decide +kernel
theorem dX10_setRow_48 : decode cX10_setRow 48 = .ok (.ishr, 1) := by decide +kernel
theorem dX10_setRow_49 : decode cX10_setRow 49 = .ok (.iconst 1, 1) := by decide +kernel
theorem dX10_setRow_50 : decode cX10_setRow 50 = .ok (.iand, 1) := by decide +kernel
theorem dX10_setRow_51 : decode cX10_setRow 51 = .ok (.ifCond .eq 5, 3) := by decide +kernel
theorem dX10_setRow_54 : decode cX10_setRow 54 = .ok (.iconst 0, 1) := by decide +kernel
theorem dX10_setRow_55 : decode cX10_setRow 55 = .ok (.ireturn, 1) := by decide +kernel
theorem dX10_setRow_56 : decode cX10_setRow 56 = .ok (.iload_n 3, 1) := by decide +kernel
theorem dX10_setRow_57 : decode cX10_setRow 57 = .ok (.iconst 1, 1) := by decide +kernel
theorem dX10_setRow_58 : decode cX10_setRow 58 = .ok (.iload 5, 2) := by decide +kernel
theorem dX10_setRow_60 : decode cX10_setRow 60 = .ok (.ishl, 1) := by decide +kernel
theorem dX10_setRow_61 : decode cX10_setRow 61 = .ok (.ior, 1) := by decide +kernel
theorem dX10_setRow_62 : decode cX10_setRow 62 = .ok (.istore_n 3, 1) := by decide +kernel
theorem dX10_setRow_63 : decode cX10_setRow 63 = .ok (.aload_n 0, 1) := by decide +kernel
theorem dX10_setRow_64 : decode cX10_setRow 64 = .ok (.getfield 81, 3) := by decide +kernel
theorem dX10_setRow_67 : decode cX10_setRow 67 = .ok (.iload 4, 2) := by decide +kernel
theorem dX10_setRow_69 : decode cX10_setRow 69 = .ok (.iload 5, 2) := by decide +kernel
theorem dX10_setRow_71 : decode cX10_setRow 71 = .ok (.iastore, 1) := by decide +kernel
theorem dX10_setRow_72 : decode cX10_setRow 72 = .ok (.iinc 4 (-1), 3) := by decide +kernel
theorem dX10_setRow_75 : decode cX10_setRow 75 = .ok (.goto (-60), 3) := by decide +kernel
theorem dX10_setRow_78 : decode cX10_setRow 78 = .ok (.iload_n 2, 1) := by decide +kernel
theorem dX10_setRow_79 : decode cX10_setRow 79 = .ok (.ifCond .ne 7, 3) := by decide +kernel
theorem dX10_setRow_82 : decode cX10_setRow 82 = .ok (.iconst 1, 1) := by decide +kernel
theorem dX10_setRow_83 : decode cX10_setRow 83 = .ok (.goto 4, 3) := by decide +kernel
theorem dX10_setRow_86 : decode cX10_setRow 86 = .ok (.iconst 0, 1) := by decide +kernel
theorem dX10_setRow_87 : decode cX10_setRow 87 = .ok (.ireturn, 1) := by decide +kernel
set_option maxRecDepth 20000 in
theorem ggX10_rowGaps_X10_rowGapsOf : GoodIn wsX10_rowGaps wsX10_rowGapsOf := goodIn_r _ [7, 1, 8, 9, 10, 11, 12, 13, 14, 15, 16, 17, 18, 19, 20, 21, 22, 23, 24, 25, 26, 27, 28, 29, 30, 31, 32, 33, 34, 35, 36, 37, 38, 39, 40, 41, 42, 43] (by decide +kernel) (by decide +kernel)
set_option maxRecDepth 20000 in
theorem gX10_rowGaps_X10_rowGapsOf : GoodIn wsX10_rowGaps (wsV RX10 236 RX10 yX10_rowGapsOf wsX10_rowGapsOf) := goodIn_app (goodIn_of _ (by decide +kernel)) ggX10_rowGaps_X10_rowGapsOf
theorem dX10_rowGaps_0 : decode cX10_rowGaps 0 = .ok (.iconst 0, 1) := by decide +kernel
theorem dX10_rowGaps_1 : decode cX10_rowGaps 1 = .ok (.istore_n 1, 1) := by decide +kernel
theorem dX10_rowGaps_2 : decode cX10_rowGaps 2 = .ok (.iconst 0, 1) := by decide +kernel
theorem dX10_rowGaps_3 : decode cX10_rowGaps 3 = .ok (.istore_n 2, 1) := by decide +kernel
theorem dX10_rowGaps_4 : decode cX10_rowGaps 4 = .ok (.iload_n 2, 1) := by decide +kernel
theorem dX10_rowGaps_5 : decode cX10_rowGaps 5 = .ok (.aload_n 0, 1) := by decide +kernel
theorem dX10_rowGaps_6 : decode cX10_rowGaps 6 = .ok (.getfield 14, 3) := by decide +kernel
theorem dX10_rowGaps_9 : decode cX10_rowGaps 9 = .ok (.getfield 144, 3) := by decide +kernel
theorem dX10_rowGaps_12 : decode cX10_rowGaps 12 = .ok (.if_icmp .ge 17, 3) := by decide +kernel
theorem dX10_rowGaps_15 : decode cX10_rowGaps 15 = .ok (.iload_n 1, 1) := by decide +kernel
theorem dX10_rowGaps_16 : decode cX10_rowGaps 16 = .ok (.aload_n 0, 1) := by decide +kernel
theorem dX10_rowGaps_17 : decode cX10_rowGaps 17 = .ok (.iload_n 2, 1) := by decide +kernel
theorem dX10_rowGaps_18 : decode cX10_rowGaps 18 = .ok (.invokevirtual 236, 3) := by decide +kernel
theorem dX10_rowGaps_21 : decode cX10_rowGaps 21 = .ok (.iadd, 1) := by decide +kernel
theorem dX10_rowGaps_22 : decode cX10_rowGaps 22 = .ok (.istore_n 1, 1) := by decide +kernel
theorem dX10_rowGaps_23 : decode cX10_rowGaps 23 = .ok (.iinc 2 1, 3) := by decide +kernel
theorem dX10_rowGaps_26 : decode cX10_rowGaps 26 = .ok (.goto (-22), 3) := by decide +kernel
theorem dX10_rowGaps_29 : decode cX10_rowGaps 29 = .ok (.iload_n 1, 1) := by decide +kernel
theorem dX10_rowGaps_30 : decode cX10_rowGaps 30 = .ok (.ireturn, 1) := by decide +kernel
set_option maxRecDepth 20000 in
theorem ggX10_rowGapsOf_X5_owns : GoodIn wsX10_rowGapsOf wsX5_owns := goodIn_r _ [8, 9, 10, 11, 12, 7, 13, 14, 33, 34, 35, 36, 37] (by decide +kernel) (by decide +kernel)
set_option maxRecDepth 20000 in
theorem gX10_rowGapsOf_X5_owns : GoodIn wsX10_rowGapsOf (wsV RX10 101 RX5 yX5_owns wsX5_owns) := goodIn_app (goodIn_of _ (by decide +kernel)) ggX10_rowGapsOf_X5_owns
theorem dX10_rowGapsOf_0 : decode cX10_rowGapsOf 0 = .ok (.iconst 0, 1) := by decide +kernel
theorem dX10_rowGapsOf_1 : decode cX10_rowGapsOf 1 = .ok (.istore_n 2, 1) := by decide +kernel
theorem dX10_rowGapsOf_2 : decode cX10_rowGapsOf 2 = .ok (.iconst 0, 1) := by decide +kernel
theorem dX10_rowGapsOf_3 : decode cX10_rowGapsOf 3 = .ok (.istore_n 3, 1) := by decide +kernel
theorem dX10_rowGapsOf_4 : decode cX10_rowGapsOf 4 = .ok (.iconst 0, 1) := by decide +kernel
theorem dX10_rowGapsOf_5 : decode cX10_rowGapsOf 5 = .ok (.istore 4, 2) := by decide +kernel
theorem dX10_rowGapsOf_7 : decode cX10_rowGapsOf 7 = .ok (.iconst 0, 1) := by decide +kernel
theorem dX10_rowGapsOf_8 : decode cX10_rowGapsOf 8 = .ok (.istore 5, 2) := by decide +kernel
theorem dX10_rowGapsOf_10 : decode cX10_rowGapsOf 10 = .ok (.iload 5, 2) := by decide +kernel
theorem dX10_rowGapsOf_12 : decode cX10_rowGapsOf 12 = .ok (.aload_n 0, 1) := by decide +kernel
theorem dX10_rowGapsOf_13 : decode cX10_rowGapsOf 13 = .ok (.getfield 14, 3) := by decide +kernel
theorem dX10_rowGapsOf_16 : decode cX10_rowGapsOf 16 = .ok (.getfield 140, 3) := by decide +kernel
theorem dX10_rowGapsOf_19 : decode cX10_rowGapsOf 19 = .ok (.if_icmp .ge 47, 3) := by decide +kernel
theorem dX10_rowGapsOf_22 : decode cX10_rowGapsOf 22 = .ok (.aload_n 0, 1) := by decide +kernel
theorem dX10_rowGapsOf_23 : decode cX10_rowGapsOf 23 = .ok (.getfield 14, 3) := by decide +kernel
theorem dX10_rowGapsOf_26 : decode cX10_rowGapsOf 26 = .ok (.aload_n 0, 1) := by decide +kernel
theorem dX10_rowGapsOf_27 : decode cX10_rowGapsOf 27 = .ok (.getfield 81, 3) := by decide +kernel
theorem dX10_rowGapsOf_30 : decode cX10_rowGapsOf 30 = .ok (.iload 5, 2) := by decide +kernel
theorem dX10_rowGapsOf_32 : decode cX10_rowGapsOf 32 = .ok (.iaload, 1) := by decide +kernel
theorem dX10_rowGapsOf_33 : decode cX10_rowGapsOf 33 = .ok (.iload_n 1, 1) := by decide +kernel
theorem dX10_rowGapsOf_34 : decode cX10_rowGapsOf 34 = .ok (.invokevirtual 101, 3) := by decide +kernel
theorem dX10_rowGapsOf_37 : decode cX10_rowGapsOf 37 = .ok (.ifCond .eq 15, 3) := by decide +kernel
theorem dX10_rowGapsOf_40 : decode cX10_rowGapsOf 40 = .ok (.iload_n 2, 1) := by decide +kernel
theorem dX10_rowGapsOf_41 : decode cX10_rowGapsOf 41 = .ok (.iload_n 3, 1) := by decide +kernel
theorem dX10_rowGapsOf_42 : decode cX10_rowGapsOf 42 = .ok (.iadd, 1) := by decide +kernel
theorem dX10_rowGapsOf_43 : decode cX10_rowGapsOf 43 = .ok (.istore_n 2, 1) := by decide +kernel
theorem dX10_rowGapsOf_44 : decode cX10_rowGapsOf 44 = .ok (.iconst 0, 1) := by decide +kernel
theorem dX10_rowGapsOf_45 : decode cX10_rowGapsOf 45 = .ok (.istore_n 3, 1) := by decide +kernel
theorem dX10_rowGapsOf_46 : decode cX10_rowGapsOf 46 = .ok (.iconst 1, 1) := by decide +kernel
theorem dX10_rowGapsOf_47 : decode cX10_rowGapsOf 47 = .ok (.istore 4, 2) := by decide +kernel
theorem dX10_rowGapsOf_49 : decode cX10_rowGapsOf 49 = .ok (.goto 11, 3) := by decide +kernel
theorem dX10_rowGapsOf_52 : decode cX10_rowGapsOf 52 = .ok (.iload 4, 2) := by decide +kernel
theorem dX10_rowGapsOf_54 : decode cX10_rowGapsOf 54 = .ok (.ifCond .eq 6, 3) := by decide +kernel
theorem dX10_rowGapsOf_57 : decode cX10_rowGapsOf 57 = .ok (.iinc 3 1, 3) := by decide +kernel
theorem dX10_rowGapsOf_60 : decode cX10_rowGapsOf 60 = .ok (.iinc 5 1, 3) := by decide +kernel
theorem dX10_rowGapsOf_63 : decode cX10_rowGapsOf 63 = .ok (.goto (-53), 3) := by decide +kernel
theorem dX10_rowGapsOf_66 : decode cX10_rowGapsOf 66 = .ok (.iload_n 2, 1) := by decide +kernel
theorem dX10_rowGapsOf_67 : decode cX10_rowGapsOf 67 = .ok (.ireturn, 1) := by decide +kernel
