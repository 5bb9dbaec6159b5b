theorem dX11_in_0 : decode cX11_in 0 = .ok (.iload_n 0, 1) := by decide +kernel
theorem dX11_in_1 : decode cX11_in 1 = .ok (.iload_n 1, 1) := by decide +kernel
theorem dX11_in_2 : decode cX11_in 2 = .ok (.if_icmp .lt 12, 3) := by decide +kernel
theorem dX11_in_5 : decode cX11_in 5 = .ok (.iload_n 0, 1) := by decide +kernel
theorem dX11_in_6 : decode cX11_in 6 = .ok (.iload_n 2, 1) := by decide +kernel
theorem dX11_in_7 : decode cX11_in 7 = .ok (.if_icmp .gt 7, 3) := by decide +kernel
theorem dX11_in_10 : decode cX11_in 10 = .ok (.iconst 1, 1) := by decide +kernel
theorem dX11_in_11 : decode cX11_in 11 = .ok (.goto 4, 3) := by decide +kernel
theorem dX11_in_14 : decode cX11_in 14 = .ok (.iconst 0, 1) := by decide +kernel
theorem dX11_in_15 : decode cX11_in 15 = .ok (.ireturn, 1) := by decide +kernel
theorem dX11_has_0 : decode cX11_has 0 = .ok (.iload_n 0, 1) := by decide +kernel
theorem dX11_has_1 : decode cX11_has 1 = .ok (.iload_n 1, 1) := by decide +kernel
theorem dX11_has_2 : decode cX11_has 2 = .ok (.ishr, 1) := by decide +kernel
theorem dX11_has_3 : decode cX11_has 3 = .ok (.iconst 1, 1) := by decide +kernel
theorem dX11_has_4 : decode cX11_has 4 = .ok (.iand, 1) := by decide +kernel
theorem dX11_has_5 : decode cX11_has 5 = .ok (.iconst 1, 1) := by decide +kernel
theorem dX11_has_6 : decode cX11_has 6 = .ok (.if_icmp .ne 7, 3) := by decide +kernel
theorem dX11_has_9 : decode cX11_has 9 = .ok (.iconst 1, 1) := by decide +kernel
theorem dX11_has_10 : decode cX11_has 10 = .ok (.goto 4, 3) := by decide +kernel
theorem dX11_has_13 : decode cX11_has 13 = .ok (.iconst 0, 1) := by decide +kernel
theorem dX11_has_14 : decode cX11_has 14 = .ok (.ireturn, 1) := by decide +kernel
theorem dX11_bits_0 : decode cX11_bits 0 = .ok (.iconst 0, 1) := by decide +kernel
theorem dX11_bits_1 : decode cX11_bits 1 = .ok (.istore_n 1, 1) := by decide +kernel
theorem dX11_bits_2 : decode cX11_bits 2 = .ok (.iload_n 0, 1) := by decide +kernel
theorem dX11_bits_3 : decode cX11_bits 3 = .ok (.istore_n 2, 1) := by decide +kernel
theorem dX11_bits_4 : decode cX11_bits 4 = .ok (.iload_n 2, 1) := by decide +kernel
theorem dX11_bits_5 : decode cX11_bits 5 = .ok (.ifCond .eq 15, 3) := by decide +kernel
theorem dX11_bits_8 : decode cX11_bits 8 = .ok (.iinc 1 1, 3) := by decide +kernel
theorem dX11_bits_11 : decode cX11_bits 11 = .ok (.iload_n 2, 1) := by decide +kernel
theorem dX11_bits_12 : decode cX11_bits 12 = .ok (.iload_n 2, 1) := by decide +kernel
theorem dX11_bits_13 : decode cX11_bits 13 = .ok (.iconst 1, 1) := by decide +kernel
theorem dX11_bits_14 : decode cX11_bits 14 = .ok (.isub, 1) := by decide +kernel
theorem dX11_bits_15 : decode cX11_bits 15 = .ok (.iand, 1) := by decide +kernel
theorem dX11_bits_16 : decode cX11_bits 16 = .ok (.istore_n 2, 1) := by decide +kernel
theorem dX11_bits_17 : decode cX11_bits 17 = .ok (.goto (-13), 3) := by decide +kernel
theorem dX11_bits_20 : decode cX11_bits 20 = .ok (.iload_n 1, 1) := by decide +kernel
theorem dX11_bits_21 : decode cX11_bits 21 = .ok (.ireturn, 1) := by decide +kernel
theorem dX11_init_0 : decode cX11_init 0 = .ok (.aload_n 0, 1) := by decide +kernel
theorem dX11_init_1 : decode cX11_init 1 = .ok (.invokespecial 9, 3) := by decide +kernel
theorem dX11_init_4 : decode cX11_init 4 = .ok (.aload_n 0, 1) := by decide +kernel
theorem dX11_init_5 : decode cX11_init 5 = .ok (.bipush 7, 2) := by decide +kernel
theorem dX11_init_7 : decode cX11_init 7 = .ok (.newarray .int, 2) := by decide +kernel
theorem dX11_init_9 : decode cX11_init 9 = .ok (.putfield 15, 3) := by decide +kernel
theorem dX11_init_12 : decode cX11_init 12 = .ok (.aload_n 0, 1) := by decide +kernel
theorem dX11_init_13 : decode cX11_init 13 = .ok (.bipush 7, 2) := by decide +kernel
theorem dX11_init_15 : decode cX11_init 15 = .ok (.newarray .int, 2) := by decide +kernel
theorem dX11_init_17 : decode cX11_init 17 = .ok (.putfield 19, 3) := by decide +kernel
theorem dX11_init_20 : decode cX11_init 20 = .ok (.aload_n 0, 1) := by decide +kernel
theorem dX11_init_21 : decode cX11_init 21 = .ok (.bipush 8, 2) := by decide +kernel
theorem dX11_init_23 : decode cX11_init 23 = .ok (.newarray .int, 2) := by decide +kernel
theorem dX11_init_25 : decode cX11_init 25 = .ok (.putfield 22, 3) := by decide +kernel
theorem dX11_init_28 : decode cX11_init 28 = .ok (.aload_n 0, 1) := by decide +kernel
theorem dX11_init_29 : decode cX11_init 29 = .ok (.bipush 7, 2) := by decide +kernel
theorem dX11_init_31 : decode cX11_init 31 = .ok (.newarray .int, 2) := by decide +kernel
theorem dX11_init_33 : decode cX11_init 33 = .ok (.putfield 25, 3) := by decide +kernel
theorem dX11_init_36 : decode cX11_init 36 = .ok (.aload_n 0, 1) := by decide +kernel
theorem dX11_init_37 : decode cX11_init 37 = .ok (.sipush 5040, 3) := by decide +kernel
theorem dX11_init_40 : decode cX11_init 40 = .ok (.newarray .int, 2) := by decide +kernel
theorem dX11_init_42 : decode cX11_init 42 = .ok (.putfield 28, 3) := by decide +kernel
theorem dX11_init_45 : decode cX11_init 45 = .ok (.aload_n 0, 1) := by decide +kernel
theorem dX11_init_46 : decode cX11_init 46 = .ok (.sipush 128, 3) := by decide +kernel
theorem dX11_init_49 : decode cX11_init 49 = .ok (.newarray .int, 2) := by decide +kernel
theorem dX11_init_51 : decode cX11_init 51 = .ok (.putfield 31, 3) := by decide +kernel
theorem dX11_init_54 : decode cX11_init 54 = .ok (.aload_n 0, 1) := by decide +kernel
theorem dX11_init_55 : decode cX11_init 55 = .ok (.sipush 128, 3) := by decide +kernel
theorem dX11_init_58 : decode cX11_init 58 = .ok (.newarray .int, 2) := by decide +kernel
theorem dX11_init_60 : decode cX11_init 60 = .ok (.putfield 34, 3) := by decide +kernel
theorem dX11_init_63 : decode cX11_init 63 = .ok (.aload_n 0, 1) := by decide +kernel
theorem dX11_init_64 : decode cX11_init 64 = .ok (.bipush 100, 2) := by decide +kernel
theorem dX11_init_66 : decode cX11_init 66 = .ok (.newarray .int, 2) := by decide +kernel
theorem dX11_init_68 : decode cX11_init 68 = .ok (.putfield 37, 3) := by decide +kernel
theorem dX11_init_71 : decode cX11_init 71 = .ok (.aload_n 0, 1) := by decide +kernel
theorem dX11_init_72 : decode cX11_init 72 = .ok (.bipush 100, 2) := by decide +kernel
theorem dX11_init_74 : decode cX11_init 74 = .ok (.newarray .int, 2) := by decide +kernel
theorem dX11_init_76 : decode cX11_init 76 = .ok (.putfield 40, 3) := by decide +kernel
theorem dX11_init_79 : decode cX11_init 79 = .ok (.aload_n 0, 1) := by decide +kernel
theorem dX11_init_80 : decode cX11_init 80 = .ok (.bipush 7, 2) := by decide +kernel
theorem dX11_init_82 : decode cX11_init 82 = .ok (.newarray .int, 2) := by decide +kernel
theorem dX11_init_84 : decode cX11_init 84 = .ok (.putfield 43, 3) := by decide +kernel
theorem dX11_init_87 : decode cX11_init 87 = .ok (.aload_n 0, 1) := by decide +kernel
theorem dX11_init_88 : decode cX11_init 88 = .ok (.bipush 7, 2) := by decide +kernel
theorem dX11_init_90 : decode cX11_init 90 = .ok (.newarray .int, 2) := by decide +kernel
theorem dX11_init_92 : decode cX11_init 92 = .ok (.putfield 46, 3) := by decide +kernel
theorem dX11_init_95 : decode cX11_init 95 = .ok (.aload_n 0, 1) := by decide +kernel
theorem dX11_init_96 : decode cX11_init 96 = .ok (.sipush 500, 3) := by decide +kernel
theorem dX11_init_99 : decode cX11_init 99 = .ok (.newarray .int, 2) := by decide +kernel
theorem dX11_init_101 : decode cX11_init 101 = .ok (.putfield 49, 3) := by decide +kernel
theorem dX11_init_104 : decode cX11_init 104 = .ok (.aload_n 0, 1) := by decide +kernel
theorem dX11_init_105 : decode cX11_init 105 = .ok (.iconst 4, 1) := by decide +kernel
theorem dX11_init_106 : decode cX11_init 106 = .ok (.newarray .boolean, 2) := by decide +kernel
theorem dX11_init_108 : decode cX11_init 108 = .ok (.putfield 52, 3) := by decide +kernel
theorem dX11_init_111 : decode cX11_init 111 = .ok (.aload_n 0, 1) := by decide +kernel
theorem dX11_init_112 : decode cX11_init 112 = .ok (.iconst 4, 1) := by decide +kernel
theorem dX11_init_113 : decode cX11_init 113 = .ok (.newarray .int, 2) := by decide +kernel
theorem dX11_init_115 : decode cX11_init 115 = .ok (.putfield 56, 3) := by decide +kernel
theorem dX11_init_118 : decode cX11_init 118 = .ok (.aload_n 0, 1) := by decide +kernel
theorem dX11_init_119 : decode cX11_init 119 = .ok (.sipush 1200, 3) := by decide +kernel
theorem dX11_init_122 : decode cX11_init 122 = .ok (.newarray .int, 2) := by decide +kernel
theorem dX11_init_124 : decode cX11_init 124 = .ok (.putfield 59, 3) := by decide +kernel
theorem dX11_init_127 : decode cX11_init 127 = .ok (.aload_n 0, 1) := by decide +kernel
theorem dX11_init_128 : decode cX11_init 128 = .ok (.sipush 1200, 3) := by decide +kernel
theorem dX11_init_131 : decode cX11_init 131 = .ok (.newarray .int, 2) := by decide +kernel
theorem dX11_init_133 : decode cX11_init 133 = .ok (.putfield 62, 3) := by decide +kernel
theorem dX11_init_136 : decode cX11_init 136 = .ok (.aload_n 0, 1) := by decide +kernel
theorem dX11_init_137 : decode cX11_init 137 = .ok (.iconst 3, 1) := by decide +kernel
theorem dX11_init_138 : decode cX11_init 138 = .ok (.newarray .int, 2) := by decide +kernel
theorem dX11_init_140 : decode cX11_init 140 = .ok (.dup, 1) := by decide +kernel
theorem dX11_init_141 : decode cX11_init 141 = .ok (.iconst 0, 1) := by decide +kernel
theorem dX11_init_142 : decode cX11_init 142 = .ok (.iconst (-1), 1) := by decide +kernel
theorem dX11_init_143 : decode cX11_init 143 = .ok (.iastore, 1) := by decide +kernel
theorem dX11_init_144 : decode cX11_init 144 = .ok (.dup, 1) := by decide +kernel
theorem dX11_init_145 : decode cX11_init 145 = .ok (.iconst 1, 1) := by decide +kernel
theorem dX11_init_146 : decode cX11_init 146 = .ok (.iconst (-1), 1) := by decide +kernel
theorem dX11_init_147 : decode cX11_init 147 = .ok (.iastore, 1) := by decide +kernel
theorem dX11_init_148 : decode cX11_init 148 = .ok (.dup, 1) := by decide +kernel
theorem dX11_init_149 : decode cX11_init 149 = .ok (.iconst 2, 1) := by decide +kernel
theorem dX11_init_150 : decode cX11_init 150 = .ok (.iconst (-1), 1) := by decide +kernel
theorem dX11_init_151 : decode cX11_init 151 = .ok (.iastore, 1) := by decide +kernel
theorem dX11_init_152 : decode cX11_init 152 = .ok (.putfield 65, 3) := by decide +kernel
theorem dX11_init_155 : decode cX11_init 155 = .ok (.aload_n 0, 1) := by decide +kernel
theorem dX11_init_156 : decode cX11_init 156 = .ok (.bipush 90, 2) := by decide +kernel
theorem dX11_init_158 : decode cX11_init 158 = .ok (.newarray .int, 2) := by decide +kernel
theorem dX11_init_160 : decode cX11_init 160 = .ok (.putfield 68, 3) := by decide +kernel
theorem dX11_init_163 : decode cX11_init 163 = .ok (.aload_n 0, 1) := by decide +kernel
theorem dX11_init_164 : decode cX11_init 164 = .ok (.bipush 7, 2) := by decide +kernel
theorem dX11_init_166 : decode cX11_init 166 = .ok (.newarray .int, 2) := by decide +kernel
theorem dX11_init_168 : decode cX11_init 168 = .ok (.putfield 71, 3) := by decide +kernel
theorem dX11_init_171 : decode cX11_init 171 = .ok (.aload_n 0, 1) := by decide +kernel
theorem dX11_init_172 : decode cX11_init 172 = .ok (.bipush 7, 2) := by decide +kernel
theorem dX11_init_174 : decode cX11_init 174 = .ok (.newarray .int, 2) := by decide +kernel
theorem dX11_init_176 : decode cX11_init 176 = .ok (.putfield 74, 3) := by decide +kernel
theorem dX11_init_179 : decode cX11_init 179 = .ok (.aload_n 0, 1) := by decide +kernel
theorem dX11_init_180 : decode cX11_init 180 = .ok (.bipush 8, 2) := by decide +kernel
theorem dX11_init_182 : decode cX11_init 182 = .ok (.newarray .int, 2) := by decide +kernel
theorem dX11_init_184 : decode cX11_init 184 = .ok (.putfield 77, 3) := by decide +kernel
theorem dX11_init_187 : decode cX11_init 187 = .ok (.return_, 1) := by decide +kernel
set_option maxRecDepth 20000 in
theorem ggX11_isGrave_X11_in : GoodIn wsX11_isGrave wsX11_in := goodIn_r _ [5] (by decide +kernel) (by decide +kernel)
set_option maxRecDepth 20000 in
theorem gX11_isGrave_X11_in : GoodIn wsX11_isGrave (va_wsS RX11 83 yX11_in wsX11_in) := goodIn_app (goodIn_of _ (by decide +kernel)) ggX11_isGrave_X11_in
theorem dX11_isGrave_0 : decode cX11_isGrave 0 = .ok (.iload_n 1, 1) := by decide +kernel
theorem dX11_isGrave_1 : decode cX11_isGrave 1 = .ok (.iconst 0, 1) := by decide +kernel
theorem dX11_isGrave_2 : decode cX11_isGrave 2 = .ok (.aload_n 0, 1) := by decide +kernel
theorem dX11_isGrave_3 : decode cX11_isGrave 3 = .ok (.getfield 80, 3) := by decide +kernel
theorem dX11_isGrave_6 : decode cX11_isGrave 6 = .ok (.iconst 1, 1) := by decide +kernel
theorem dX11_isGrave_7 : decode cX11_isGrave 7 = .ok (.isub, 1) := by decide +kernel
theorem dX11_isGrave_8 : decode cX11_isGrave 8 = .ok (.invokestatic 83, 3) := by decide +kernel
theorem dX11_isGrave_11 : decode cX11_isGrave 11 = .ok (.ireturn, 1) := by decide +kernel
set_option maxRecDepth 20000 in
theorem ggX11_isType_X11_in : GoodIn wsX11_isType wsX11_in := goodIn_r _ [5] (by decide +kernel) (by decide +kernel)
set_option maxRecDepth 20000 in
theorem gX11_isType_X11_in : GoodIn wsX11_isType (va_wsS RX11 83 yX11_in wsX11_in) := goodIn_app (goodIn_of _ (by decide +kernel)) ggX11_isType_X11_in
theorem dX11_isType_0 : decode cX11_isType 0 = .ok (.iload_n 1, 1) := by decide +kernel
theorem dX11_isType_1 : decode cX11_isType 1 = .ok (.iconst 0, 1) := by decide +kernel
theorem dX11_isType_2 : decode cX11_isType 2 = .ok (.aload_n 0, 1) := by decide +kernel
theorem dX11_isType_3 : decode cX11_isType 3 = .ok (.getfield 87, 3) := by decide +kernel
theorem dX11_isType_6 : decode cX11_isType 6 = .ok (.iconst 1, 1) := by decide +kernel
theorem dX11_isType_7 : decode cX11_isType 7 = .ok (.isub, 1) := by decide +kernel
theorem dX11_isType_8 : decode cX11_isType 8 = .ok (.invokestatic 83, 3) := by decide +kernel
theorem dX11_isType_11 : decode cX11_isType 11 = .ok (.ireturn, 1) := by decide +kernel
set_option maxRecDepth 20000 in
theorem ggX11_grave_X11_in : GoodIn wsX11_grave wsX11_in := goodIn_r _ [7] (by decide +kernel) (by decide +kernel)
set_option maxRecDepth 20000 in
theorem gX11_grave_X11_in : GoodIn wsX11_grave (va_wsS RX11 83 yX11_in wsX11_in) := goodIn_app (goodIn_of _ (by decide +kernel)) ggX11_grave_X11_in
theorem dX11_grave_0 : decode cX11_grave 0 = .ok (.iload_n 1, 1) := by decide +kernel
theorem dX11_grave_1 : decode cX11_grave 1 = .ok (.iconst 0, 1) := by decide +kernel
theorem dX11_grave_2 : decode cX11_grave 2 = .ok (.sipush 999, 3) := by decide +kernel
theorem dX11_grave_5 : decode cX11_grave 5 = .ok (.invokestatic 83, 3) := by decide +kernel
theorem dX11_grave_8 : decode cX11_grave 8 = .ok (.ifCond .ne 6, 3) := by decide +kernel
theorem dX11_grave_11 : decode cX11_grave 11 = .ok (.bipush (-2), 2) := by decide +kernel
theorem dX11_grave_13 : decode cX11_grave 13 = .ok (.ireturn, 1) := by decide +kernel
theorem dX11_grave_14 : decode cX11_grave 14 = .ok (.aload_n 0, 1) := by decide +kernel
theorem dX11_grave_15 : decode cX11_grave 15 = .ok (.getfield 80, 3) := by decide +kernel
theorem dX11_grave_18 : decode cX11_grave 18 = .ok (.bipush 7, 2) := by decide +kernel
theorem dX11_grave_20 : decode cX11_grave 20 = .ok (.if_icmp .ne 6, 3) := by decide +kernel
theorem dX11_grave_23 : decode cX11_grave 23 = .ok (.bipush (-4), 2) := by decide +kernel
theorem dX11_grave_25 : decode cX11_grave 25 = .ok (.ireturn, 1) := by decide +kernel
theorem dX11_grave_26 : decode cX11_grave 26 = .ok (.aload_n 0, 1) := by decide +kernel
theorem dX11_grave_27 : decode cX11_grave 27 = .ok (.getfield 15, 3) := by decide +kernel
theorem dX11_grave_30 : decode cX11_grave 30 = .ok (.aload_n 0, 1) := by decide +kernel
theorem dX11_grave_31 : decode cX11_grave 31 = .ok (.getfield 80, 3) := by decide +kernel
theorem dX11_grave_34 : decode cX11_grave 34 = .ok (.iload_n 1, 1) := by decide +kernel
theorem dX11_grave_35 : decode cX11_grave 35 = .ok (.iastore, 1) := by decide +kernel
theorem dX11_grave_36 : decode cX11_grave 36 = .ok (.aload_n 0, 1) := by decide +kernel
theorem dX11_grave_37 : decode cX11_grave 37 = .ok (.getfield 19, 3) := by decide +kernel
theorem dX11_grave_40 : decode cX11_grave 40 = .ok (.aload_n 0, 1) := by decide +kernel
theorem dX11_grave_41 : decode cX11_grave 41 = .ok (.getfield 80, 3) := by decide +kernel
theorem dX11_grave_44 : decode cX11_grave 44 = .ok (.iconst 0, 1) := by decide +kernel
theorem dX11_grave_45 : decode cX11_grave 45 = .ok (.iastore, 1) := by decide +kernel
theorem dX11_grave_46 : decode cX11_grave 46 = .ok (.aload_n 0, 1) := by decide +kernel
theorem dX11_grave_47 : decode cX11_grave 47 = .ok (.dup, 1) := by decide +kernel
theorem dX11_grave_48 : decode cX11_grave 48 = .ok (.getfield 80, 3) := by decide +kernel
theorem dX11_grave_51 : decode cX11_grave 51 = .ok (.iconst 1, 1) := by decide +kernel
theorem dX11_grave_52 : decode cX11_grave 52 = .ok (.iadd, 1) := by decide +kernel
theorem dX11_grave_53 : decode cX11_grave 53 = .ok (.putfield 80, 3) := by decide +kernel
theorem dX11_grave_56 : decode cX11_grave 56 = .ok (.aload_n 0, 1) := by decide +kernel
theorem dX11_grave_57 : decode cX11_grave 57 = .ok (.getfield 80, 3) := by decide +kernel
theorem dX11_grave_60 : decode cX11_grave 60 = .ok (.iconst 1, 1) := by decide +kernel
theorem dX11_grave_61 : decode cX11_grave 61 = .ok (.isub, 1) := by decide +kernel
theorem dX11_grave_62 : decode cX11_grave 62 = .ok (.ireturn, 1) := by decide +kernel
set_option maxRecDepth 20000 in
theorem ggX11_has__X11_isGrave : GoodIn wsX11_has_ wsX11_isGrave := goodIn_r _ [6, 7, 8, 9, 5, 10, 16, 17, 18, 19, 20, 21, 22, 23, 24, 25, 26, 27, 28, 29, 30, 31, 32, 33, 34, 35, 36, 37, 38, 39, 40, 41, 42, 43, 44, 45, 46, 47, 48, 49, 50, 51, 52, 53, 54] (by decide +kernel) (by decide +kernel)
set_option maxRecDepth 20000 in
theorem gX11_has__X11_isGrave : GoodIn wsX11_has_ (wsV RX11 90 RX11 yX11_isGrave wsX11_isGrave) := goodIn_app (goodIn_of _ (by decide +kernel)) ggX11_has__X11_isGrave
set_option maxRecDepth 20000 in
theorem ggX11_has__X11_isType : GoodIn wsX11_has_ wsX11_isType := goodIn_r _ [14, 15, 8, 9, 5, 10, 16, 17, 18, 19, 20, 21, 22, 23, 24, 25, 26, 27, 28, 29, 30, 31, 32, 33, 34, 35, 36, 37, 38, 39, 40, 41, 42, 43, 44, 45, 46, 47, 48, 49, 50, 51, 52, 53, 54] (by decide +kernel) (by decide +kernel)
set_option maxRecDepth 20000 in
theorem gX11_has__X11_isType : GoodIn wsX11_has_ (wsV RX11 94 RX11 yX11_isType wsX11_isType) := goodIn_app (goodIn_of _ (by decide +kernel)) ggX11_has__X11_isType
set_option maxRecDepth 20000 in
theorem ggX11_has__X11_in : GoodIn wsX11_has_ wsX11_in := goodIn_r _ [10] (by decide +kernel) (by decide +kernel)
set_option maxRecDepth 20000 in
theorem gX11_has__X11_in : GoodIn wsX11_has_ (va_wsS RX11 83 yX11_in wsX11_in) := goodIn_app (goodIn_of _ (by decide +kernel)) ggX11_has__X11_in
theorem dX11_has__0 : decode cX11_has_ 0 = .ok (.aload_n 0, 1) := by decide +kernel
theorem dX11_has__1 : decode cX11_has_ 1 = .ok (.iload_n 1, 1) := by decide +kernel
theorem dX11_has__2 : decode cX11_has_ 2 = .ok (.invokevirtual 90, 3) := by decide +kernel
theorem dX11_has__5 : decode cX11_has_ 5 = .ok (.ifCond .eq 11, 3) := by decide +kernel
theorem dX11_has__8 : decode cX11_has_ 8 = .ok (.aload_n 0, 1) := by decide +kernel
theorem dX11_has__9 : decode cX11_has_ 9 = .ok (.iload_n 2, 1) := by decide +kernel
theorem dX11_has__10 : decode cX11_has_ 10 = .ok (.invokevirtual 94, 3) := by decide +kernel
theorem dX11_has__13 : decode cX11_has_ 13 = .ok (.ifCond .ne 5, 3) := by decide +kernel
theorem dX11_has__16 : decode cX11_has_ 16 = .ok (.iconst (-1), 1) := by decide +kernel
theorem dX11_has__17 : decode cX11_has_ 17 = .ok (.ireturn, 1) := by decide +kernel
theorem dX11_has__18 : decode cX11_has_ 18 = .ok (.iload_n 3, 1) := by decide +kernel
theorem dX11_has__19 : decode cX11_has_ 19 = .ok (.iconst 0, 1) := by decide +kernel
theorem dX11_has__20 : decode cX11_has_ 20 = .ok (.iconst 1, 1) := by decide +kernel
theorem dX11_has__21 : decode cX11_has_ 21 = .ok (.invokestatic 83, 3) := by decide +kernel
theorem dX11_has__24 : decode cX11_has_ 24 = .ok (.ifCond .ne 6, 3) := by decide +kernel
theorem dX11_has__27 : decode cX11_has_ 27 = .ok (.bipush (-2), 2) := by decide +kernel
theorem dX11_has__29 : decode cX11_has_ 29 = .ok (.ireturn, 1) := by decide +kernel
theorem dX11_has__30 : decode cX11_has_ 30 = .ok (.aload_n 0, 1) := by decide +kernel
theorem dX11_has__31 : decode cX11_has_ 31 = .ok (.getfield 19, 3) := by decide +kernel
theorem dX11_has__34 : decode cX11_has_ 34 = .ok (.iload_n 1, 1) := by decide +kernel
theorem dX11_has__35 : decode cX11_has_ 35 = .ok (.iaload, 1) := by decide +kernel
theorem dX11_has__36 : decode cX11_has_ 36 = .ok (.iload_n 2, 1) := by decide +kernel
theorem dX11_has__37 : decode cX11_has_ 37 = .ok (.ishr, 1) := by decide +kernel
theorem dX11_has__38 : decode cX11_has_ 38 = .ok (.iconst 1, 1) := by decide +kernel
theorem dX11_has__39 : decode cX11_has_ 39 = .ok (.iand, 1) := by decide +kernel
theorem dX11_has__40 : decode cX11_has_ 40 = .ok (.istore 4, 2) := by decide +kernel
theorem dX11_has__42 : decode cX11_has_ 42 = .ok (.aload_n 0, 1) := by decide +kernel
theorem dX11_has__43 : decode cX11_has_ 43 = .ok (.getfield 19, 3) := by decide +kernel
theorem dX11_has__46 : decode cX11_has_ 46 = .ok (.iload_n 1, 1) := by decide +kernel
theorem dX11_has__47 : decode cX11_has_ 47 = .ok (.aload_n 0, 1) := by decide +kernel
theorem dX11_has__48 : decode cX11_has_ 48 = .ok (.getfield 19, 3) := by decide +kernel
theorem dX11_has__51 : decode cX11_has_ 51 = .ok (.iload_n 1, 1) := by decide +kernel
theorem dX11_has__52 : decode cX11_has_ 52 = .ok (.iaload, 1) := by decide +kernel
theorem dX11_has__53 : decode cX11_has_ 53 = .ok (.iconst 1, 1) := by decide +kernel
theorem dX11_has__54 : decode cX11_has_ 54 = .ok (.iload_n 2, 1) := by decide +kernel
theorem dX11_has__55 : decode cX11_has_ 55 = .ok (.ishl, 1) := by decide +kernel
theorem dX11_has__56 : decode cX11_has_ 56 = .ok (.iconst (-1), 1) := by decide +kernel
theorem dX11_has__57 : decode cX11_has_ 57 = .ok (.ixor, 1) := by decide +kernel
theorem dX11_has__58 : decode cX11_has_ 58 = .ok (.iand, 1) := by decide +kernel
theorem dX11_has__59 : decode cX11_has_ 59 = .ok (.iload_n 3, 1) := by decide +kernel
theorem dX11_has__60 : decode cX11_has_ 60 = .ok (.iload_n 2, 1) := by decide +kernel
theorem dX11_has__61 : decode cX11_has_ 61 = .ok (.ishl, 1) := by decide +kernel
theorem dX11_has__62 : decode cX11_has_ 62 = .ok (.ior, 1) := by decide +kernel
theorem dX11_has__63 : decode cX11_has_ 63 = .ok (.iastore, 1) := by decide +kernel
theorem dX11_has__64 : decode cX11_has_ 64 = .ok (.iload 4, 2) := by decide +kernel
theorem dX11_has__66 : decode cX11_has_ 66 = .ok (.ireturn, 1) := by decide +kernel
theorem dX11_peers_0 : decode cX11_peers 0 = .ok (.iconst 0, 1) := by decide +kernel
theorem dX11_peers_1 : decode cX11_peers 1 = .ok (.istore_n 2, 1) := by decide +kernel
theorem dX11_peers_2 : decode cX11_peers 2 = .ok (.iconst 0, 1) := by decide +kernel
theorem dX11_peers_3 : decode cX11_peers 3 = .ok (.istore_n 3, 1) := by decide +kernel
theorem dX11_peers_4 : decode cX11_peers 4 = .ok (.iload_n 3, 1) := by decide +kernel
theorem dX11_peers_5 : decode cX11_peers 5 = .ok (.aload_n 0, 1) := by decide +kernel
theorem dX11_peers_6 : decode cX11_peers 6 = .ok (.getfield 80, 3) := by decide +kernel
theorem dX11_peers_9 : decode cX11_peers 9 = .ok (.if_icmp .ge 53, 3) := by decide +kernel
theorem dX11_peers_12 : decode cX11_peers 12 = .ok (.iload_n 2, 1) := by decide +kernel
theorem dX11_peers_13 : decode cX11_peers 13 = .ok (.aload_n 0, 1) := by decide +kernel
theorem dX11_peers_14 : decode cX11_peers 14 = .ok (.getfield 19, 3) := by decide +kernel
theorem dX11_peers_17 : decode cX11_peers 17 = .ok (.iload_n 3, 1) := by decide +kernel
theorem dX11_peers_18 : decode cX11_peers 18 = .ok (.iaload, 1) := by decide +kernel
theorem dX11_peers_19 : decode cX11_peers 19 = .ok (.aload_n 0, 1) := by decide +kernel
theorem dX11_peers_20 : decode cX11_peers 20 = .ok (.getfield 19, 3) := by decide +kernel
theorem dX11_peers_23 : decode cX11_peers 23 = .ok (.iload_n 1, 1) := by decide +kernel
theorem dX11_peers_24 : decode cX11_peers 24 = .ok (.iaload, 1) := by decide +kernel
theorem dX11_peers_25 : decode cX11_peers 25 = .ok (.if_icmp .ne 28, 3) := by decide +kernel
theorem dX11_peers_28 : decode cX11_peers 28 = .ok (.aload_n 0, 1) := by decide +kernel
theorem dX11_peers_29 : decode cX11_peers 29 = .ok (.getfield 15, 3) := by decide +kernel
theorem dX11_peers_32 : decode cX11_peers 32 = .ok (.iload_n 3, 1) := by decide +kernel
theorem dX11_peers_33 : decode cX11_peers 33 = .ok (.iaload, 1) := by decide +kernel
theorem dX11_peers_34 : decode cX11_peers 34 = .ok (.bipush 100, 2) := by decide +kernel
theorem dX11_peers_36 : decode cX11_peers 36 = .ok (.irem, 1) := by decide +kernel
theorem dX11_peers_37 : decode cX11_peers 37 = .ok (.aload_n 0, 1) := by decide +kernel
theorem dX11_peers_38 : decode cX11_peers 38 = .ok (.getfield 15, 3) := by decide +kernel
theorem dX11_peers_41 : decode cX11_peers 41 = .ok (.iload_n 1, 1) := by decide +kernel
theorem dX11_peers_42 : decode cX11_peers 42 = .ok (.iaload, 1) := by decide +kernel
theorem dX11_peers_43 : decode cX11_peers 43 = .ok (.bipush 100, 2) := by decide +kernel
theorem dX11_peers_45 : decode cX11_peers 45 = .ok (.irem, 1) := by decide +kernel
theorem dX11_peers_46 : decode cX11_peers 46 = .ok (.if_icmp .ne 7, 3) := by decide +kernel
theorem dX11_peers_49 : decode cX11_peers 49 = .ok (.iconst 1, 1) := by decide +kernel
theorem dX11_peers_50 : decode cX11_peers 50 = .ok (.goto 4, 3) := by decide +kernel
theorem dX11_peers_53 : decode cX11_peers 53 = .ok (.iconst 0, 1) := by decide +kernel
theorem dX11_peers_54 : decode cX11_peers 54 = .ok (.iadd, 1) := by decide +kernel
theorem dX11_peers_55 : decode cX11_peers 55 = .ok (.istore_n 2, 1) := by decide +kernel
theorem dX11_peers_56 : decode cX11_peers 56 = .ok (.iinc 3 1, 3) := by decide +kernel
theorem dX11_peers_59 : decode cX11_peers 59 = .ok (.goto (-55), 3) := by decide +kernel
theorem dX11_peers_62 : decode cX11_peers 62 = .ok (.iload_n 2, 1) := by decide +kernel
theorem dX11_peers_63 : decode cX11_peers 63 = .ok (.ireturn, 1) := by decide +kernel
theorem dX11_sharers_0 : decode cX11_sharers 0 = .ok (.iconst 0, 1) := by decide +kernel
theorem dX11_sharers_1 : decode cX11_sharers 1 = .ok (.istore_n 2, 1) := by decide +kernel
theorem dX11_sharers_2 : decode cX11_sharers 2 = .ok (.iconst 0, 1) := by decide +kernel
theorem dX11_sharers_3 : decode cX11_sharers 3 = .ok (.istore_n 3, 1) := by decide +kernel
theorem dX11_sharers_4 : decode cX11_sharers 4 = .ok (.iload_n 3, 1) := by decide +kernel
theorem dX11_sharers_5 : decode cX11_sharers 5 = .ok (.aload_n 0, 1) := by decide +kernel
theorem dX11_sharers_6 : decode cX11_sharers 6 = .ok (.getfield 80, 3) := by decide +kernel
theorem dX11_sharers_9 : decode cX11_sharers 9 = .ok (.if_icmp .ge 38, 3) := by decide +kernel
theorem dX11_sharers_12 : decode cX11_sharers 12 = .ok (.iload_n 2, 1) := by decide +kernel
theorem dX11_sharers_13 : decode cX11_sharers 13 = .ok (.iload_n 3, 1) := by decide +kernel
theorem dX11_sharers_14 : decode cX11_sharers 14 = .ok (.iload_n 1, 1) := by decide +kernel
theorem dX11_sharers_15 : decode cX11_sharers 15 = .ok (.if_icmp .eq 23, 3) := by decide +kernel
theorem dX11_sharers_18 : decode cX11_sharers 18 = .ok (.aload_n 0, 1) := by decide +kernel
theorem dX11_sharers_19 : decode cX11_sharers 19 = .ok (.getfield 19, 3) := by decide +kernel
theorem dX11_sharers_22 : decode cX11_sharers 22 = .ok (.iload_n 3, 1) := by decide +kernel
theorem dX11_sharers_23 : decode cX11_sharers 23 = .ok (.iaload, 1) := by decide +kernel
theorem dX11_sharers_24 : decode cX11_sharers 24 = .ok (.aload_n 0, 1) := by decide +kernel
theorem dX11_sharers_25 : decode cX11_sharers 25 = .ok (.getfield 19, 3) := by decide +kernel
theorem dX11_sharers_28 : decode cX11_sharers 28 = .ok (.iload_n 1, 1) := by decide +kernel
theorem dX11_sharers_29 : decode cX11_sharers 29 = .ok (.iaload, 1) := by decide +kernel
theorem dX11_sharers_30 : decode cX11_sharers 30 = .ok (.iand, 1) := by decide +kernel
theorem dX11_sharers_31 : decode cX11_sharers 31 = .ok (.ifCond .eq 7, 3) := by decide +kernel
theorem dX11_sharers_34 : decode cX11_sharers 34 = .ok (.iconst 1, 1) := by decide +kernel
theorem dX11_sharers_35 : decode cX11_sharers 35 = .ok (.goto 4, 3) := by decide +kernel
theorem dX11_sharers_38 : decode cX11_sharers 38 = .ok (.iconst 0, 1) := by decide +kernel
theorem dX11_sharers_39 : decode cX11_sharers 39 = .ok (.iadd, 1) := by decide +kernel
theorem dX11_sharers_40 : decode cX11_sharers 40 = .ok (.istore_n 2, 1) := by decide +kernel
theorem dX11_sharers_41 : decode cX11_sharers 41 = .ok (.iinc 3 1, 3) := by decide +kernel
theorem dX11_sharers_44 : decode cX11_sharers 44 = .ok (.goto (-40), 3) := by decide +kernel
theorem dX11_sharers_47 : decode cX11_sharers 47 = .ok (.iload_n 2, 1) := by decide +kernel
theorem dX11_sharers_48 : decode cX11_sharers 48 = .ok (.ireturn, 1) := by decide +kernel
set_option maxRecDepth 20000 in
theorem ggX11_of_X11_isGrave : GoodIn wsX11_of wsX11_isGrave := goodIn_r _ [7, 8, 9, 10, 6, 11, 20, 21, 22, 23, 24, 25, 26, 27, 28, 29, 30, 31, 32, 33, 34, 35, 36, 37, 38, 39, 40, 41, 42, 43, 44, 45, 46, 47, 48, 49, 50, 51, 52, 53, 54, 55, 56, 57, 58] (by decide +kernel) (by decide +kernel)
set_option maxRecDepth 20000 in
theorem gX11_of_X11_isGrave : GoodIn wsX11_of (wsV RX11 90 RX11 yX11_isGrave wsX11_isGrave) := goodIn_app (goodIn_of _ (by decide +kernel)) ggX11_of_X11_isGrave
set_option maxRecDepth 20000 in
theorem ggX11_of_X11_peers : GoodIn wsX11_of wsX11_peers := goodIn_r _ [15, 8, 2, 1, 20, 21, 22, 23, 24, 25, 26, 27, 28, 29, 30, 31, 32, 33, 34, 35, 36, 37, 38, 39, 40, 41, 42, 43, 44, 45, 46, 47, 48, 49, 50, 51, 52, 53, 54, 55, 56, 57, 58] (by decide +kernel) (by decide +kernel)
set_option maxRecDepth 20000 in
theorem gX11_of_X11_peers : GoodIn wsX11_of (wsV RX11 97 RX11 yX11_peers wsX11_peers) := goodIn_app (goodIn_of _ (by decide +kernel)) ggX11_of_X11_peers
set_option maxRecDepth 20000 in
theorem ggX11_of_X11_sharers : GoodIn wsX11_of wsX11_sharers := goodIn_r _ [19, 8, 2, 20, 21, 22, 23, 24, 25, 26, 27, 28, 29, 30, 31, 32, 33, 34, 35, 36, 37, 38, 39, 40, 41, 42, 43, 44, 45, 46, 47, 48, 49, 50, 51, 52, 53, 54, 55, 56, 57, 58] (by decide +kernel) (by decide +kernel)
set_option maxRecDepth 20000 in
theorem gX11_of_X11_sharers : GoodIn wsX11_of (wsV RX11 101 RX11 yX11_sharers wsX11_sharers) := goodIn_app (goodIn_of _ (by decide +kernel)) ggX11_of_X11_sharers
theorem dX11_of_0 : decode cX11_of 0 = .ok (.aload_n 0, 1) := by decide +kernel
theorem dX11_of_1 : decode cX11_of 1 = .ok (.iload_n 1, 1) := by decide +kernel
theorem dX11_of_2 : decode cX11_of 2 = .ok (.invokevirtual 90, 3) := by decide +kernel
theorem dX11_of_5 : decode cX11_of 5 = .ok (.ifCond .ne 5, 3) := by decide +kernel
theorem dX11_of_8 : decode cX11_of 8 = .ok (.iconst (-1), 1) := by decide +kernel
theorem dX11_of_9 : decode cX11_of 9 = .ok (.ireturn, 1) := by decide +kernel
theorem dX11_of_10 : decode cX11_of 10 = .ok (.iload_n 2, 1) := by decide +kernel
theorem dX11_of_11 : decode cX11_of 11 = .ok (.tableswitch 55 0 3 #[29, 36, 43, 49], 29) := by decide +kernel
theorem dX11_of_40 : decode cX11_of 40 = .ok (.aload_n 0, 1) := by decide +kernel
theorem dX11_of_41 : decode cX11_of 41 = .ok (.getfield 15, 3) := by decide +kernel
theorem dX11_of_44 : decode cX11_of 44 = .ok (.iload_n 1, 1) := by decide +kernel
theorem dX11_of_45 : decode cX11_of 45 = .ok (.iaload, 1) := by decide +kernel
theorem dX11_of_46 : decode cX11_of 46 = .ok (.ireturn, 1) := by decide +kernel
theorem dX11_of_47 : decode cX11_of 47 = .ok (.aload_n 0, 1) := by decide +kernel
theorem dX11_of_48 : decode cX11_of 48 = .ok (.getfield 19, 3) := by decide +kernel
theorem dX11_of_51 : decode cX11_of 51 = .ok (.iload_n 1, 1) := by decide +kernel
theorem dX11_of_52 : decode cX11_of 52 = .ok (.iaload, 1) := by decide +kernel
theorem dX11_of_53 : decode cX11_of 53 = .ok (.ireturn, 1) := by decide +kernel
theorem dX11_of_54 : decode cX11_of 54 = .ok (.aload_n 0, 1) := by decide +kernel
theorem dX11_of_55 : decode cX11_of 55 = .ok (.iload_n 1, 1) := by decide +kernel
theorem dX11_of_56 : decode cX11_of 56 = .ok (.invokevirtual 97, 3) := by decide +kernel
theorem dX11_of_59 : decode cX11_of 59 = .ok (.ireturn, 1) := by decide +kernel
theorem dX11_of_60 : decode cX11_of 60 = .ok (.aload_n 0, 1) := by decide +kernel
theorem dX11_of_61 : decode cX11_of 61 = .ok (.iload_n 1, 1) := by decide +kernel
theorem dX11_of_62 : decode cX11_of 62 = .ok (.invokevirtual 101, 3) := by decide +kernel
theorem dX11_of_65 : decode cX11_of 65 = .ok (.ireturn, 1) := by decide +kernel
theorem dX11_of_66 : decode cX11_of 66 = .ok (.iconst (-1), 1) := by decide +kernel
theorem dX11_of_67 : decode cX11_of 67 = .ok (.ireturn, 1) := by decide +kernel
theorem dX11_letterOf_0 : decode cX11_letterOf 0 = .ok (.iload_n 0, 1) := by decide +kernel
theorem dX11_letterOf_1 : decode cX11_letterOf 1 = .ok (.istore_n 2, 1) := by decide +kernel
theorem dX11_letterOf_2 : decode cX11_letterOf 2 = .ok (.iload_n 1, 1) := by decide +kernel
theorem dX11_letterOf_3 : decode cX11_letterOf 3 = .ok (.istore_n 3, 1) := by decide +kernel
theorem dX11_letterOf_4 : decode cX11_letterOf 4 = .ok (.iload_n 3, 1) := by decide +kernel
theorem dX11_letterOf_5 : decode cX11_letterOf 5 = .ok (.iconst 5, 1) := by decide +kernel
theorem dX11_letterOf_6 : decode cX11_letterOf 6 = .ok (.if_icmp .ge 14, 3) := by decide +kernel
theorem dX11_letterOf_9 : decode cX11_letterOf 9 = .ok (.iload_n 2, 1) := by decide +kernel
theorem dX11_letterOf_10 : decode cX11_letterOf 10 = .ok (.bipush 27, 2) := by decide +kernel
theorem dX11_letterOf_12 : decode cX11_letterOf 12 = .ok (.idiv, 1) := by decide +kernel
theorem dX11_letterOf_13 : decode cX11_letterOf 13 = .ok (.istore_n 2, 1) := by decide +kernel
theorem dX11_letterOf_14 : decode cX11_letterOf 14 = .ok (.iinc 3 1, 3) := by decide +kernel
theorem dX11_letterOf_17 : decode cX11_letterOf 17 = .ok (.goto (-13), 3) := by decide +kernel
theorem dX11_letterOf_20 : decode cX11_letterOf 20 = .ok (.iload_n 2, 1) := by decide +kernel
theorem dX11_letterOf_21 : decode cX11_letterOf 21 = .ok (.bipush 27, 2) := by decide +kernel
theorem dX11_letterOf_23 : decode cX11_letterOf 23 = .ok (.irem, 1) := by decide +kernel
theorem dX11_letterOf_24 : decode cX11_letterOf 24 = .ok (.ireturn, 1) := by decide +kernel
set_option maxRecDepth 20000 in
theorem ggX11_lettersOf_X11_letterOf : GoodIn wsX11_lettersOf wsX11_letterOf := goodIn_r _ [4] (by decide +kernel) (by decide +kernel)
set_option maxRecDepth 20000 in
theorem gX11_lettersOf_X11_letterOf : GoodIn wsX11_lettersOf (va_wsS RX11 104 yX11_letterOf wsX11_letterOf) := goodIn_app (goodIn_of _ (by decide +kernel)) ggX11_lettersOf_X11_letterOf
theorem dX11_lettersOf_0 : decode cX11_lettersOf 0 = .ok (.iconst 0, 1) := by decide +kernel
theorem dX11_lettersOf_1 : decode cX11_lettersOf 1 = .ok (.istore_n 1, 1) := by decide +kernel
theorem dX11_lettersOf_2 : decode cX11_lettersOf 2 = .ok (.iload_n 1, 1) := by decide +kernel
theorem dX11_lettersOf_3 : decode cX11_lettersOf 3 = .ok (.bipush 6, 2) := by decide +kernel
theorem dX11_lettersOf_5 : decode cX11_lettersOf 5 = .ok (.if_icmp .ge 17, 3) := by decide +kernel
theorem dX11_lettersOf_8 : decode cX11_lettersOf 8 = .ok (.iload_n 0, 1) := by decide +kernel
theorem dX11_lettersOf_9 : decode cX11_lettersOf 9 = .ok (.iload_n 1, 1) := by decide +kernel
theorem dX11_lettersOf_10 : decode cX11_lettersOf 10 = .ok (.invokestatic 104, 3) := by decide +kernel
theorem dX11_lettersOf_13 : decode cX11_lettersOf 13 = .ok (.ifCond .le 9, 3) := by decide +kernel
theorem dX11_lettersOf_16 : decode cX11_lettersOf 16 = .ok (.iinc 1 1, 3) := by decide +kernel
theorem dX11_lettersOf_19 : decode cX11_lettersOf 19 = .ok (.goto (-17), 3) := by decide +kernel
theorem dX11_lettersOf_22 : decode cX11_lettersOf 22 = .ok (.iload_n 1, 1) := by decide +kernel
theorem dX11_lettersOf_23 : decode cX11_lettersOf 23 = .ok (.ireturn, 1) := by decide +kernel
theorem dX11_gravesWith_0 : decode cX11_gravesWith 0 = .ok (.iconst 0, 1) := by decide +kernel
theorem dX11_gravesWith_1 : decode cX11_gravesWith 1 = .ok (.istore_n 2, 1) := by decide +kernel
theorem dX11_gravesWith_2 : decode cX11_gravesWith 2 = .ok (.iconst 0, 1) := by decide +kernel
theorem dX11_gravesWith_3 : decode cX11_gravesWith 3 = .ok (.istore_n 3, 1) := by decide +kernel
theorem dX11_gravesWith_4 : decode cX11_gravesWith 4 = .ok (.iload_n 3, 1) := by decide +kernel
theorem dX11_gravesWith_5 : decode cX11_gravesWith 5 = .ok (.aload_n 0, 1) := by decide +kernel
theorem dX11_gravesWith_6 : decode cX11_gravesWith 6 = .ok (.getfield 80, 3) := by decide +kernel
theorem dX11_gravesWith_9 : decode cX11_gravesWith 9 = .ok (.if_icmp .ge 24, 3) := by decide +kernel
theorem dX11_gravesWith_12 : decode cX11_gravesWith 12 = .ok (.iload_n 2, 1) := by decide +kernel
theorem dX11_gravesWith_13 : decode cX11_gravesWith 13 = .ok (.aload_n 0, 1) := by decide +kernel
theorem dX11_gravesWith_14 : decode cX11_gravesWith 14 = .ok (.getfield 19, 3) := by decide +kernel
theorem dX11_gravesWith_17 : decode cX11_gravesWith 17 = .ok (.iload_n 3, 1) := by decide +kernel
theorem dX11_gravesWith_18 : decode cX11_gravesWith 18 = .ok (.iaload, 1) := by decide +kernel
theorem dX11_gravesWith_19 : decode cX11_gravesWith 19 = .ok (.iload_n 1, 1) := by decide +kernel
theorem dX11_gravesWith_20 : decode cX11_gravesWith 20 = .ok (.ishr, 1) := by decide +kernel
theorem dX11_gravesWith_21 : decode cX11_gravesWith 21 = .ok (.iconst 1, 1) := by decide +kernel
theorem dX11_gravesWith_22 : decode cX11_gravesWith 22 = .ok (.iand, 1) := by decide +kernel
theorem dX11_gravesWith_23 : decode cX11_gravesWith 23 = .ok (.iload_n 3, 1) := by decide +kernel
theorem dX11_gravesWith_24 : decode cX11_gravesWith 24 = .ok (.ishl, 1) := by decide +kernel
theorem dX11_gravesWith_25 : decode cX11_gravesWith 25 = .ok (.ior, 1) := by decide +kernel
theorem dX11_gravesWith_26 : decode cX11_gravesWith 26 = .ok (.istore_n 2, 1) := by decide +kernel
theorem dX11_gravesWith_27 : decode cX11_gravesWith 27 = .ok (.iinc 3 1, 3) := by decide +kernel
theorem dX11_gravesWith_30 : decode cX11_gravesWith 30 = .ok (.goto (-26), 3) := by decide +kernel
theorem dX11_gravesWith_33 : decode cX11_gravesWith 33 = .ok (.iload_n 2, 1) := by decide +kernel
theorem dX11_gravesWith_34 : decode cX11_gravesWith 34 = .ok (.ireturn, 1) := by decide +kernel
set_option maxRecDepth 20000 in
theorem ggX11_type_X11_isType : GoodIn wsX11_type wsX11_isType := goodIn_r _ [6, 7, 8, 9, 5, 10, 23, 24, 25, 26, 27, 28, 29, 30, 31, 32, 33, 34, 35, 36, 37, 38, 39, 40, 41, 42, 43, 44, 45, 46, 47, 48, 49, 50, 51, 52, 53, 54, 55, 56, 57, 58, 59, 60, 61] (by decide +kernel) (by decide +kernel)
set_option maxRecDepth 20000 in
theorem gX11_type_X11_isType : GoodIn wsX11_type (wsV RX11 94 RX11 yX11_isType wsX11_isType) := goodIn_app (goodIn_of _ (by decide +kernel)) ggX11_type_X11_isType
set_option maxRecDepth 20000 in
theorem ggX11_type_X11_in : GoodIn wsX11_type wsX11_in := goodIn_r _ [10] (by decide +kernel) (by decide +kernel)
set_option maxRecDepth 20000 in
theorem gX11_type_X11_in : GoodIn wsX11_type (va_wsS RX11 83 yX11_in wsX11_in) := goodIn_app (goodIn_of _ (by decide +kernel)) ggX11_type_X11_in
set_option maxRecDepth 20000 in
theorem ggX11_type_X11_gravesWith : GoodIn wsX11_type wsX11_gravesWith := goodIn_r _ [14, 15, 16, 23, 24, 25, 26, 27, 28, 29, 30, 31, 32, 33, 34, 35, 36, 37, 38, 39, 40, 41, 42, 43, 44, 45, 46, 47, 48, 49, 50, 51, 52, 53, 54, 55, 56, 57, 58, 59, 60, 61] (by decide +kernel) (by decide +kernel)
set_option maxRecDepth 20000 in
theorem gX11_type_X11_gravesWith : GoodIn wsX11_type (wsV RX11 108 RX11 yX11_gravesWith wsX11_gravesWith) := goodIn_app (goodIn_of _ (by decide +kernel)) ggX11_type_X11_gravesWith
set_option maxRecDepth 20000 in
theorem ggX11_type_X11_lettersOf : GoodIn wsX11_type wsX11_lettersOf := goodIn_r _ [19, 20, 21, 5, 22] (by decide +kernel) (by decide +kernel)
set_option maxRecDepth 20000 in
theorem gX11_type_X11_lettersOf : GoodIn wsX11_type (va_wsS RX11 111 yX11_lettersOf wsX11_lettersOf) := goodIn_app (goodIn_of _ (by decide +kernel)) ggX11_type_X11_lettersOf
set_option maxRecDepth 20000 in
theorem ggX11_type_X11_letterOf : GoodIn wsX11_type wsX11_letterOf := goodIn_r _ [22] (by decide +kernel) (by decide +kernel)
set_option maxRecDepth 20000 in
theorem gX11_type_X11_letterOf : GoodIn wsX11_type (va_wsS RX11 104 yX11_letterOf wsX11_letterOf) := goodIn_app (goodIn_of _ (by decide +kernel)) ggX11_type_X11_letterOf
theorem dX11_type_0 : decode cX11_type 0 = .ok (.aload_n 0, 1) := by decide +kernel
theorem dX11_type_1 : decode cX11_type 1 = .ok (.iload_n 1, 1) := by decide +kernel
theorem dX11_type_2 : decode cX11_type 2 = .ok (.invokevirtual 94, 3) := by decide +kernel
theorem dX11_type_5 : decode cX11_type 5 = .ok (.ifCond .eq 13, 3) := by decide +kernel
theorem dX11_type_8 : decode cX11_type 8 = .ok (.iload_n 2, 1) := by decide +kernel
theorem dX11_type_9 : decode cX11_type 9 = .ok (.iconst 0, 1) := by decide +kernel
theorem dX11_type_10 : decode cX11_type 10 = .ok (.bipush 7, 2) := by decide +kernel
theorem dX11_type_12 : decode cX11_type 12 = .ok (.invokestatic 83, 3) := by decide +kernel
theorem dX11_type_15 : decode cX11_type 15 = .ok (.ifCond .ne 5, 3) := by decide +kernel
theorem dX11_type_18 : decode cX11_type 18 = .ok (.iconst (-1), 1) := by decide +kernel
theorem dX11_type_19 : decode cX11_type 19 = .ok (.ireturn, 1) := by decide +kernel
theorem dX11_type_20 : decode cX11_type 20 = .ok (.iload_n 2, 1) := by decide +kernel
theorem dX11_type_21 : decode cX11_type 21 = .ok (.ifCond .ne 9, 3) := by decide +kernel
theorem dX11_type_24 : decode cX11_type 24 = .ok (.aload_n 0, 1) := by decide +kernel
theorem dX11_type_25 : decode cX11_type 25 = .ok (.iload_n 1, 1) := by decide +kernel
theorem dX11_type_26 : decode cX11_type 26 = .ok (.invokevirtual 108, 3) := by decide +kernel
theorem dX11_type_29 : decode cX11_type 29 = .ok (.ireturn, 1) := by decide +kernel
theorem dX11_type_30 : decode cX11_type 30 = .ok (.iload_n 2, 1) := by decide +kernel
theorem dX11_type_31 : decode cX11_type 31 = .ok (.iconst 1, 1) := by decide +kernel
theorem dX11_type_32 : decode cX11_type 32 = .ok (.if_icmp .ne 13, 3) := by decide +kernel
theorem dX11_type_35 : decode cX11_type 35 = .ok (.aload_n 0, 1) := by decide +kernel
theorem dX11_type_36 : decode cX11_type 36 = .ok (.getfield 22, 3) := by decide +kernel
theorem dX11_type_39 : decode cX11_type 39 = .ok (.iload_n 1, 1) := by decide +kernel
theorem dX11_type_40 : decode cX11_type 40 = .ok (.iaload, 1) := by decide +kernel
theorem dX11_type_41 : decode cX11_type 41 = .ok (.invokestatic 111, 3) := by decide +kernel
theorem dX11_type_44 : decode cX11_type 44 = .ok (.ireturn, 1) := by decide +kernel
theorem dX11_type_45 : decode cX11_type 45 = .ok (.aload_n 0, 1) := by decide +kernel
theorem dX11_type_46 : decode cX11_type 46 = .ok (.getfield 22, 3) := by decide +kernel
theorem dX11_type_49 : decode cX11_type 49 = .ok (.iload_n 1, 1) := by decide +kernel
theorem dX11_type_50 : decode cX11_type 50 = .ok (.iaload, 1) := by decide +kernel
theorem dX11_type_51 : decode cX11_type 51 = .ok (.iload_n 2, 1) := by decide +kernel
theorem dX11_type_52 : decode cX11_type 52 = .ok (.iconst 2, 1) := by decide +kernel
theorem dX11_type_53 : decode cX11_type 53 = .ok (.isub, 1) := by decide +kernel
theorem dX11_type_54 : decode cX11_type 54 = .ok (.invokestatic 104, 3) := by decide +kernel
theorem dX11_type_57 : decode cX11_type 57 = .ok (.istore_n 3, 1) := by decide +kernel
theorem dX11_type_58 : decode cX11_type 58 = .ok (.iload_n 3, 1) := by decide +kernel
theorem dX11_type_59 : decode cX11_type 59 = .ok (.ifCond .ne 7, 3) := by decide +kernel
theorem dX11_type_62 : decode cX11_type 62 = .ok (.iconst (-1), 1) := by decide +kernel
theorem dX11_type_63 : decode cX11_type 63 = .ok (.goto 9, 3) := by decide +kernel
theorem dX11_type_66 : decode cX11_type 66 = .ok (.bipush 97, 2) := by decide +kernel
theorem dX11_type_68 : decode cX11_type 68 = .ok (.iload_n 3, 1) := by decide +kernel
theorem dX11_type_69 : decode cX11_type 69 = .ok (.iadd, 1) := by decide +kernel
theorem dX11_type_70 : decode cX11_type 70 = .ok (.iconst 1, 1) := by decide +kernel
theorem dX11_type_71 : decode cX11_type 71 = .ok (.isub, 1) := by decide +kernel
theorem dX11_type_72 : decode cX11_type 72 = .ok (.ireturn, 1) := by decide +kernel
set_option maxRecDepth 20000 in
theorem ggX11_drop_X11_isGrave : GoodIn wsX11_drop wsX11_isGrave := goodIn_r _ [8, 1, 9, 10, 7, 11, 12, 13, 14, 15, 16, 17, 18, 19, 20, 21, 22, 23, 24, 25, 26, 27, 28, 29, 30, 31, 32, 33, 34, 35, 36, 37, 38, 39, 40, 41, 42, 43, 44, 45, 46, 47, 48, 49, 50] (by decide +kernel) (by decide +kernel)
set_option maxRecDepth 20000 in
theorem gX11_drop_X11_isGrave : GoodIn wsX11_drop (wsV RX11 90 RX11 yX11_isGrave wsX11_isGrave) := goodIn_app (goodIn_of _ (by decide +kernel)) ggX11_drop_X11_isGrave
theorem dX11_drop_0 : decode cX11_drop 0 = .ok (.aload_n 0, 1) := by decide +kernel
theorem dX11_drop_1 : decode cX11_drop 1 = .ok (.iload_n 1, 1) := by decide +kernel
theorem dX11_drop_2 : decode cX11_drop 2 = .ok (.invokevirtual 90, 3) := by decide +kernel
theorem dX11_drop_5 : decode cX11_drop 5 = .ok (.ifCond .ne 5, 3) := by decide +kernel
theorem dX11_drop_8 : decode cX11_drop 8 = .ok (.iconst (-1), 1) := by decide +kernel
theorem dX11_drop_9 : decode cX11_drop 9 = .ok (.ireturn, 1) := by decide +kernel
theorem dX11_drop_10 : decode cX11_drop 10 = .ok (.aload_n 0, 1) := by decide +kernel
theorem dX11_drop_11 : decode cX11_drop 11 = .ok (.dup, 1) := by decide +kernel
theorem dX11_drop_12 : decode cX11_drop 12 = .ok (.getfield 80, 3) := by decide +kernel
theorem dX11_drop_15 : decode cX11_drop 15 = .ok (.iconst 1, 1) := by decide +kernel
theorem dX11_drop_16 : decode cX11_drop 16 = .ok (.isub, 1) := by decide +kernel
theorem dX11_drop_17 : decode cX11_drop 17 = .ok (.putfield 80, 3) := by decide +kernel
theorem dX11_drop_20 : decode cX11_drop 20 = .ok (.iload_n 1, 1) := by decide +kernel
theorem dX11_drop_21 : decode cX11_drop 21 = .ok (.istore_n 2, 1) := by decide +kernel
theorem dX11_drop_22 : decode cX11_drop 22 = .ok (.iload_n 2, 1) := by decide +kernel
theorem dX11_drop_23 : decode cX11_drop 23 = .ok (.aload_n 0, 1) := by decide +kernel
theorem dX11_drop_24 : decode cX11_drop 24 = .ok (.getfield 80, 3) := by decide +kernel
theorem dX11_drop_27 : decode cX11_drop 27 = .ok (.if_icmp .ge 37, 3) := by decide +kernel
theorem dX11_drop_30 : decode cX11_drop 30 = .ok (.aload_n 0, 1) := by decide +kernel
theorem dX11_drop_31 : decode cX11_drop 31 = .ok (.getfield 15, 3) := by decide +kernel
theorem dX11_drop_34 : decode cX11_drop 34 = .ok (.iload_n 2, 1) := by decide +kernel
theorem dX11_drop_35 : decode cX11_drop 35 = .ok (.aload_n 0, 1) := by decide +kernel
theorem dX11_drop_36 : decode cX11_drop 36 = .ok (.getfield 15, 3) := by decide +kernel
theorem dX11_drop_39 : decode cX11_drop 39 = .ok (.iload_n 2, 1) := by decide +kernel
theorem dX11_drop_40 : decode cX11_drop 40 = .ok (.iconst 1, 1) := by decide +kernel
theorem dX11_drop_41 : decode cX11_drop 41 = .ok (.iadd, 1) := by decide +kernel
theorem dX11_drop_42 : decode cX11_drop 42 = .ok (.iaload, 1) := by decide +kernel
theorem dX11_drop_43 : decode cX11_drop 43 = .ok (.iastore, 1) := by decide +kernel
theorem dX11_drop_44 : decode cX11_drop 44 = .ok (.aload_n 0, 1) := by decide +kernel
theorem dX11_drop_45 : decode cX11_drop 45 = .ok (.getfield 19, 3) := by decide +kernel
theorem dX11_drop_48 : decode cX11_drop 48 = .ok (.iload_n 2, 1) := by decide +kernel
theorem dX11_drop_49 : decode cX11_drop 49 = .ok (.aload_n 0, 1) := by decide +kernel
theorem dX11_drop_50 : decode cX11_drop 50 = .ok (.getfield 19, 3) := by decide +kernel
theorem dX11_drop_53 : decode cX11_drop 53 = .ok (.iload_n 2, 1) := by decide +kernel
theorem dX11_drop_54 : decode cX11_drop 54 = .ok (.iconst 1, 1) := by decide +kernel
theorem dX11_drop_55 : decode cX11_drop 55 = .ok (.iadd, 1) := by decide +kernel
theorem dX11_drop_56 : decode cX11_drop 56 = .ok (.iaload, 1) := by decide +kernel
theorem dX11_drop_57 : decode cX11_drop 57 = .ok (.iastore, 1) := by decide +kernel
theorem dX11_drop_58 : decode cX11_drop 58 = .ok (.iinc 2 1, 3) := by decide +kernel
theorem dX11_drop_61 : decode cX11_drop 61 = .ok (.goto (-39), 3) := by decide +kernel
theorem dX11_drop_64 : decode cX11_drop 64 = .ok (.aload_n 0, 1) := by decide +kernel
theorem dX11_drop_65 : decode cX11_drop 65 = .ok (.getfield 80, 3) := by decide +kernel
theorem dX11_drop_68 : decode cX11_drop 68 = .ok (.ireturn, 1) := by decide +kernel
set_option maxRecDepth 20000 in
theorem ggX11_partOf_X11_has : GoodIn wsX11_partOf wsX11_has := goodIn_r _ [6] (by decide +kernel) (by decide +kernel)
set_option maxRecDepth 20000 in
theorem gX11_partOf_X11_has : GoodIn wsX11_partOf (va_wsS RX11 114 yX11_has wsX11_has) := goodIn_app (goodIn_of _ (by decide +kernel)) ggX11_partOf_X11_has
theorem dX11_partOf_0 : decode cX11_partOf 0 = .ok (.iconst 1, 1) := by decide +kernel
theorem dX11_partOf_1 : decode cX11_partOf 1 = .ok (.iload_n 1, 1) := by decide +kernel
theorem dX11_partOf_2 : decode cX11_partOf 2 = .ok (.ishl, 1) := by decide +kernel
theorem dX11_partOf_3 : decode cX11_partOf 3 = .ok (.istore_n 2, 1) := by decide +kernel
theorem dX11_partOf_4 : decode cX11_partOf 4 = .ok (.iconst 0, 1) := by decide +kernel
theorem dX11_partOf_5 : decode cX11_partOf 5 = .ok (.istore_n 3, 1) := by decide +kernel
theorem dX11_partOf_6 : decode cX11_partOf 6 = .ok (.iload_n 2, 1) := by decide +kernel
theorem dX11_partOf_7 : decode cX11_partOf 7 = .ok (.iload_n 3, 1) := by decide +kernel
theorem dX11_partOf_8 : decode cX11_partOf 8 = .ok (.if_icmp .eq 96, 3) := by decide +kernel
theorem dX11_partOf_11 : decode cX11_partOf 11 = .ok (.iload_n 2, 1) := by decide +kernel
theorem dX11_partOf_12 : decode cX11_partOf 12 = .ok (.istore_n 3, 1) := by decide +kernel
theorem dX11_partOf_13 : decode cX11_partOf 13 = .ok (.iconst 0, 1) := by decide +kernel
theorem dX11_partOf_14 : decode cX11_partOf 14 = .ok (.istore 4, 2) := by decide +kernel
theorem dX11_partOf_16 : decode cX11_partOf 16 = .ok (.iconst 0, 1) := by decide +kernel
theorem dX11_partOf_17 : decode cX11_partOf 17 = .ok (.istore 5, 2) := by decide +kernel
theorem dX11_partOf_19 : decode cX11_partOf 19 = .ok (.iload 5, 2) := by decide +kernel
theorem dX11_partOf_21 : decode cX11_partOf 21 = .ok (.aload_n 0, 1) := by decide +kernel
theorem dX11_partOf_22 : decode cX11_partOf 22 = .ok (.getfield 80, 3) := by decide +kernel
theorem dX11_partOf_25 : decode cX11_partOf 25 = .ok (.if_icmp .ge 34, 3) := by decide +kernel
theorem dX11_partOf_28 : decode cX11_partOf 28 = .ok (.iload 4, 2) := by decide +kernel
theorem dX11_partOf_30 : decode cX11_partOf 30 = .ok (.iload_n 3, 1) := by decide +kernel
theorem dX11_partOf_31 : decode cX11_partOf 31 = .ok (.iload 5, 2) := by decide +kernel
theorem dX11_partOf_33 : decode cX11_partOf 33 = .ok (.invokestatic 114, 3) := by decide +kernel
theorem dX11_partOf_36 : decode cX11_partOf 36 = .ok (.ifCond .eq 13, 3) := by decide +kernel
theorem dX11_partOf_39 : decode cX11_partOf 39 = .ok (.aload_n 0, 1) := by decide +kernel
theorem dX11_partOf_40 : decode cX11_partOf 40 = .ok (.getfield 19, 3) := by decide +kernel
theorem dX11_partOf_43 : decode cX11_partOf 43 = .ok (.iload 5, 2) := by decide +kernel
theorem dX11_partOf_45 : decode cX11_partOf 45 = .ok (.iaload, 1) := by decide +kernel
theorem dX11_partOf_46 : decode cX11_partOf 46 = .ok (.goto 4, 3) := by decide +kernel
theorem dX11_partOf_49 : decode cX11_partOf 49 = .ok (.iconst 0, 1) := by decide +kernel
theorem dX11_partOf_50 : decode cX11_partOf 50 = .ok (.ior, 1) := by decide +kernel
theorem dX11_partOf_51 : decode cX11_partOf 51 = .ok (.istore 4, 2) := by decide +kernel
theorem dX11_partOf_53 : decode cX11_partOf 53 = .ok (.iinc 5 1, 3) := by decide +kernel
theorem dX11_partOf_56 : decode cX11_partOf 56 = .ok (.goto (-37), 3) := by decide +kernel
theorem dX11_partOf_59 : decode cX11_partOf 59 = .ok (.iconst 0, 1) := by decide +kernel
theorem dX11_partOf_60 : decode cX11_partOf 60 = .ok (.istore 5, 2) := by decide +kernel
theorem dX11_partOf_62 : decode cX11_partOf 62 = .ok (.iload 5, 2) := by decide +kernel
theorem dX11_partOf_64 : decode cX11_partOf 64 = .ok (.aload_n 0, 1) := by decide +kernel
theorem dX11_partOf_65 : decode cX11_partOf 65 = .ok (.getfield 80, 3) := by decide +kernel
theorem dX11_partOf_68 : decode cX11_partOf 68 = .ok (.if_icmp .ge 33, 3) := by decide +kernel
theorem dX11_partOf_71 : decode cX11_partOf 71 = .ok (.iload_n 2, 1) := by decide +kernel
theorem dX11_partOf_72 : decode cX11_partOf 72 = .ok (.aload_n 0, 1) := by decide +kernel
theorem dX11_partOf_73 : decode cX11_partOf 73 = .ok (.getfield 19, 3) := by decide +kernel
theorem dX11_partOf_76 : decode cX11_partOf 76 = .ok (.iload 5, 2) := by decide +kernel
theorem dX11_partOf_78 : decode cX11_partOf 78 = .ok (.iaload, 1) := by decide +kernel
theorem dX11_partOf_79 : decode cX11_partOf 79 = .ok (.iload 4, 2) := by decide +kernel
theorem dX11_partOf_81 : decode cX11_partOf 81 = .ok (.iand, 1) := by decide +kernel
theorem dX11_partOf_82 : decode cX11_partOf 82 = .ok (.ifCond .eq 10, 3) := by decide +kernel
theorem dX11_partOf_85 : decode cX11_partOf 85 = .ok (.iconst 1, 1) := by decide +kernel
theorem dX11_partOf_86 : decode cX11_partOf 86 = .ok (.iload 5, 2) := by decide +kernel
theorem dX11_partOf_88 : decode cX11_partOf 88 = .ok (.ishl, 1) := by decide +kernel
theorem dX11_partOf_89 : decode cX11_partOf 89 = .ok (.goto 4, 3) := by decide +kernel
theorem dX11_partOf_92 : decode cX11_partOf 92 = .ok (.iconst 0, 1) := by decide +kernel
theorem dX11_partOf_93 : decode cX11_partOf 93 = .ok (.ior, 1) := by decide +kernel
theorem dX11_partOf_94 : decode cX11_partOf 94 = .ok (.istore_n 2, 1) := by decide +kernel
theorem dX11_partOf_95 : decode cX11_partOf 95 = .ok (.iinc 5 1, 3) := by decide +kernel
theorem dX11_partOf_98 : decode cX11_partOf 98 = .ok (.goto (-36), 3) := by decide +kernel
theorem dX11_partOf_101 : decode cX11_partOf 101 = .ok (.goto (-95), 3) := by decide +kernel
theorem dX11_partOf_104 : decode cX11_partOf 104 = .ok (.iload_n 2, 1) := by decide +kernel
theorem dX11_partOf_105 : decode cX11_partOf 105 = .ok (.ireturn, 1) := by decide +kernel
set_option maxRecDepth 20000 in
theorem ggX11_parts_X11_has : GoodIn wsX11_parts wsX11_has := goodIn_r _ [5] (by decide +kernel) (by decide +kernel)
set_option maxRecDepth 20000 in
theorem gX11_parts_X11_has : GoodIn wsX11_parts (va_wsS RX11 114 yX11_has wsX11_has) := goodIn_app (goodIn_of _ (by decide +kernel)) ggX11_parts_X11_has
set_option maxRecDepth 20000 in
theorem ggX11_parts_X11_partOf : GoodIn wsX11_parts wsX11_partOf := goodIn_r _ [9, 1, 10, 2, 3, 4, 5, 11, 12, 13, 14, 15, 16, 17, 18, 19, 20, 21, 22, 23, 24, 25, 26, 27, 28, 29, 30, 31, 32, 33, 34, 35, 36, 37, 38, 39, 40, 41, 42, 43, 44, 45, 46, 47, 48, 49] (by decide +kernel) (by decide +kernel)
set_option maxRecDepth 20000 in
theorem gX11_parts_X11_partOf : GoodIn wsX11_parts (wsV RX11 118 RX11 yX11_partOf wsX11_partOf) := goodIn_app (goodIn_of _ (by decide +kernel)) ggX11_parts_X11_partOf
theorem dX11_parts_0 : decode cX11_parts 0 = .ok (.iconst 0, 1) := by decide +kernel
theorem dX11_parts_1 : decode cX11_parts 1 = .ok (.istore_n 1, 1) := by decide +kernel
theorem dX11_parts_2 : decode cX11_parts 2 = .ok (.iconst 0, 1) := by decide +kernel
theorem dX11_parts_3 : decode cX11_parts 3 = .ok (.istore_n 2, 1) := by decide +kernel
theorem dX11_parts_4 : decode cX11_parts 4 = .ok (.iconst 0, 1) := by decide +kernel
theorem dX11_parts_5 : decode cX11_parts 5 = .ok (.istore_n 3, 1) := by decide +kernel
theorem dX11_parts_6 : decode cX11_parts 6 = .ok (.iload_n 3, 1) := by decide +kernel
theorem dX11_parts_7 : decode cX11_parts 7 = .ok (.aload_n 0, 1) := by decide +kernel
theorem dX11_parts_8 : decode cX11_parts 8 = .ok (.getfield 80, 3) := by decide +kernel
theorem dX11_parts_11 : decode cX11_parts 11 = .ok (.if_icmp .ge 31, 3) := by decide +kernel
theorem dX11_parts_14 : decode cX11_parts 14 = .ok (.iload_n 1, 1) := by decide +kernel
theorem dX11_parts_15 : decode cX11_parts 15 = .ok (.iload_n 3, 1) := by decide +kernel
theorem dX11_parts_16 : decode cX11_parts 16 = .ok (.invokestatic 114, 3) := by decide +kernel
theorem dX11_parts_19 : decode cX11_parts 19 = .ok (.ifCond .eq 6, 3) := by decide +kernel
theorem dX11_parts_22 : decode cX11_parts 22 = .ok (.goto 14, 3) := by decide +kernel
theorem dX11_parts_25 : decode cX11_parts 25 = .ok (.iload_n 1, 1) := by decide +kernel
theorem dX11_parts_26 : decode cX11_parts 26 = .ok (.aload_n 0, 1) := by decide +kernel
theorem dX11_parts_27 : decode cX11_parts 27 = .ok (.iload_n 3, 1) := by decide +kernel
theorem dX11_parts_28 : decode cX11_parts 28 = .ok (.invokevirtual 118, 3) := by decide +kernel
theorem dX11_parts_31 : decode cX11_parts 31 = .ok (.ior, 1) := by decide +kernel
theorem dX11_parts_32 : decode cX11_parts 32 = .ok (.istore_n 1, 1) := by decide +kernel
theorem dX11_parts_33 : decode cX11_parts 33 = .ok (.iinc 2 1, 3) := by decide +kernel
theorem dX11_parts_36 : decode cX11_parts 36 = .ok (.iinc 3 1, 3) := by decide +kernel
theorem dX11_parts_39 : decode cX11_parts 39 = .ok (.goto (-33), 3) := by decide +kernel
theorem dX11_parts_42 : decode cX11_parts 42 = .ok (.iload_n 2, 1) := by decide +kernel
theorem dX11_parts_43 : decode cX11_parts 43 = .ok (.ireturn, 1) := by decide +kernel
theorem dX11_bare_0 : decode cX11_bare 0 = .ok (.iconst 0, 1) := by decide +kernel
theorem dX11_bare_1 : decode cX11_bare 1 = .ok (.istore_n 1, 1) := by decide +kernel
theorem dX11_bare_2 : decode cX11_bare 2 = .ok (.iconst 0, 1) := by decide +kernel
theorem dX11_bare_3 : decode cX11_bare 3 = .ok (.istore_n 2, 1) := by decide +kernel
theorem dX11_bare_4 : decode cX11_bare 4 = .ok (.iload_n 2, 1) := by decide +kernel
theorem dX11_bare_5 : decode cX11_bare 5 = .ok (.aload_n 0, 1) := by decide +kernel
theorem dX11_bare_6 : decode cX11_bare 6 = .ok (.getfield 80, 3) := by decide +kernel
theorem dX11_bare_9 : decode cX11_bare 9 = .ok (.if_icmp .ge 26, 3) := by decide +kernel
theorem dX11_bare_12 : decode cX11_bare 12 = .ok (.iload_n 1, 1) := by decide +kernel
theorem dX11_bare_13 : decode cX11_bare 13 = .ok (.aload_n 0, 1) := by decide +kernel
theorem dX11_bare_14 : decode cX11_bare 14 = .ok (.getfield 19, 3) := by decide +kernel
theorem dX11_bare_17 : decode cX11_bare 17 = .ok (.iload_n 2, 1) := by decide +kernel
theorem dX11_bare_18 : decode cX11_bare 18 = .ok (.iaload, 1) := by decide +kernel
theorem dX11_bare_19 : decode cX11_bare 19 = .ok (.ifCond .ne 7, 3) := by decide +kernel
theorem dX11_bare_22 : decode cX11_bare 22 = .ok (.iconst 1, 1) := by decide +kernel
theorem dX11_bare_23 : decode cX11_bare 23 = .ok (.goto 4, 3) := by decide +kernel
theorem dX11_bare_26 : decode cX11_bare 26 = .ok (.iconst 0, 1) := by decide +kernel
theorem dX11_bare_27 : decode cX11_bare 27 = .ok (.iadd, 1) := by decide +kernel
theorem dX11_bare_28 : decode cX11_bare 28 = .ok (.istore_n 1, 1) := by decide +kernel
theorem dX11_bare_29 : decode cX11_bare 29 = .ok (.iinc 2 1, 3) := by decide +kernel
theorem dX11_bare_32 : decode cX11_bare 32 = .ok (.goto (-28), 3) := by decide +kernel
theorem dX11_bare_35 : decode cX11_bare 35 = .ok (.iload_n 1, 1) := by decide +kernel
theorem dX11_bare_36 : decode cX11_bare 36 = .ok (.ireturn, 1) := by decide +kernel
set_option maxRecDepth 20000 in
theorem ggX11_count_X11_parts : GoodIn wsX11_count wsX11_parts := goodIn_r _ [9, 1, 10, 11, 8, 12, 13, 14, 15, 16, 17, 22, 23, 24, 25, 26, 27, 28, 29, 30, 31, 32, 33, 34, 35, 36, 37, 38, 39, 40, 41, 42, 43, 44, 45, 46, 47, 48, 49, 50, 51, 52, 53, 54, 55, 56, 57, 58, 59, 60] (by decide +kernel) (by decide +kernel)
set_option maxRecDepth 20000 in
theorem gX11_count_X11_parts : GoodIn wsX11_count (wsV RX11 121 RX11 yX11_parts wsX11_parts) := goodIn_app (goodIn_of _ (by decide +kernel)) ggX11_count_X11_parts
set_option maxRecDepth 20000 in
theorem ggX11_count_X11_bare : GoodIn wsX11_count wsX11_bare := goodIn_r _ [21, 1, 17, 22, 23, 24, 25, 26, 27, 28, 29, 30, 31, 32, 33, 34, 35, 36, 37, 38, 39, 40, 41, 42, 43, 44, 45, 46, 47, 48, 49, 50, 51, 52, 53, 54, 55, 56, 57, 58, 59, 60] (by decide +kernel) (by decide +kernel)
set_option maxRecDepth 20000 in
theorem gX11_count_X11_bare : GoodIn wsX11_count (wsV RX11 131 RX11 yX11_bare wsX11_bare) := goodIn_app (goodIn_of _ (by decide +kernel)) ggX11_count_X11_bare
theorem dX11_count_0 : decode cX11_count 0 = .ok (.iload_n 1, 1) := by decide +kernel
theorem dX11_count_1 : decode cX11_count 1 = .ok (.tableswitch 69 0 5 #[39, 44, 49, 54, 59, 64], 39) := by decide +kernel
theorem dX11_count_40 : decode cX11_count 40 = .ok (.aload_n 0, 1) := by decide +kernel
theorem dX11_count_41 : decode cX11_count 41 = .ok (.getfield 80, 3) := by decide +kernel
theorem dX11_count_44 : decode cX11_count 44 = .ok (.ireturn, 1) := by decide +kernel
theorem dX11_count_45 : decode cX11_count 45 = .ok (.aload_n 0, 1) := by decide +kernel
theorem dX11_count_46 : decode cX11_count 46 = .ok (.getfield 87, 3) := by decide +kernel
theorem dX11_count_49 : decode cX11_count 49 = .ok (.ireturn, 1) := by decide +kernel
theorem dX11_count_50 : decode cX11_count 50 = .ok (.aload_n 0, 1) := by decide +kernel
theorem dX11_count_51 : decode cX11_count 51 = .ok (.invokevirtual 121, 3) := by decide +kernel
theorem dX11_count_54 : decode cX11_count 54 = .ok (.ireturn, 1) := by decide +kernel
theorem dX11_count_55 : decode cX11_count 55 = .ok (.aload_n 0, 1) := by decide +kernel
theorem dX11_count_56 : decode cX11_count 56 = .ok (.getfield 125, 3) := by decide +kernel
theorem dX11_count_59 : decode cX11_count 59 = .ok (.ireturn, 1) := by decide +kernel
theorem dX11_count_60 : decode cX11_count 60 = .ok (.aload_n 0, 1) := by decide +kernel
theorem dX11_count_61 : decode cX11_count 61 = .ok (.getfield 128, 3) := by decide +kernel
theorem dX11_count_64 : decode cX11_count 64 = .ok (.ireturn, 1) := by decide +kernel
theorem dX11_count_65 : decode cX11_count 65 = .ok (.aload_n 0, 1) := by decide +kernel
theorem dX11_count_66 : decode cX11_count 66 = .ok (.invokevirtual 131, 3) := by decide +kernel
theorem dX11_count_69 : decode cX11_count 69 = .ok (.ireturn, 1) := by decide +kernel
theorem dX11_count_70 : decode cX11_count 70 = .ok (.bipush (-2), 2) := by decide +kernel
theorem dX11_count_72 : decode cX11_count 72 = .ok (.ireturn, 1) := by decide +kernel
theorem dX11_begins_0 : decode cX11_begins 0 = .ok (.aload_n 0, 1) := by decide +kernel
theorem dX11_begins_1 : decode cX11_begins 1 = .ok (.iconst 0, 1) := by decide +kernel
theorem dX11_begins_2 : decode cX11_begins 2 = .ok (.putfield 134, 3) := by decide +kernel
theorem dX11_begins_5 : decode cX11_begins 5 = .ok (.iconst 0, 1) := by decide +kernel
theorem dX11_begins_6 : decode cX11_begins 6 = .ok (.istore_n 3, 1) := by decide +kernel
theorem dX11_begins_7 : decode cX11_begins 7 = .ok (.iload_n 3, 1) := by decide +kernel
theorem dX11_begins_8 : decode cX11_begins 8 = .ok (.aload_n 0, 1) := by decide +kernel
theorem dX11_begins_9 : decode cX11_begins 9 = .ok (.getfield 80, 3) := by decide +kernel
theorem dX11_begins_12 : decode cX11_begins 12 = .ok (.if_icmp .ge 37, 3) := by decide +kernel
theorem dX11_begins_15 : decode cX11_begins 15 = .ok (.iload_n 3, 1) := by decide +kernel
theorem dX11_begins_16 : decode cX11_begins 16 = .ok (.iload_n 1, 1) := by decide +kernel
theorem dX11_begins_17 : decode cX11_begins 17 = .ok (.if_icmp .ne 6, 3) := by decide +kernel
theorem dX11_begins_20 : decode cX11_begins 20 = .ok (.goto 23, 3) := by decide +kernel
theorem dX11_begins_23 : decode cX11_begins 23 = .ok (.aload_n 0, 1) := by decide +kernel
theorem dX11_begins_24 : decode cX11_begins 24 = .ok (.getfield 25, 3) := by decide +kernel
theorem dX11_begins_27 : decode cX11_begins 27 = .ok (.aload_n 0, 1) := by decide +kernel
theorem dX11_begins_28 : decode cX11_begins 28 = .ok (.getfield 134, 3) := by decide +kernel
theorem dX11_begins_31 : decode cX11_begins 31 = .ok (.iload_n 3, 1) := by decide +kernel
theorem dX11_begins_32 : decode cX11_begins 32 = .ok (.iastore, 1) := by decide +kernel
theorem dX11_begins_33 : decode cX11_begins 33 = .ok (.aload_n 0, 1) := by decide +kernel
theorem dX11_begins_34 : decode cX11_begins 34 = .ok (.dup, 1) := by decide +kernel
theorem dX11_begins_35 : decode cX11_begins 35 = .ok (.getfield 134, 3) := by decide +kernel
theorem dX11_begins_38 : decode cX11_begins 38 = .ok (.iconst 1, 1) := by decide +kernel
theorem dX11_begins_39 : decode cX11_begins 39 = .ok (.iadd, 1) := by decide +kernel
theorem dX11_begins_40 : decode cX11_begins 40 = .ok (.putfield 134, 3) := by decide +kernel
theorem dX11_begins_43 : decode cX11_begins 43 = .ok (.iinc 3 1, 3) := by decide +kernel
theorem dX11_begins_46 : decode cX11_begins 46 = .ok (.goto (-39), 3) := by decide +kernel
theorem dX11_begins_49 : decode cX11_begins 49 = .ok (.aload_n 0, 1) := by decide +kernel
theorem dX11_begins_50 : decode cX11_begins 50 = .ok (.iload_n 2, 1) := by decide +kernel
theorem dX11_begins_51 : decode cX11_begins 51 = .ok (.putfield 137, 3) := by decide +kernel
theorem dX11_begins_54 : decode cX11_begins 54 = .ok (.return_, 1) := by decide +kernel
set_option maxRecDepth 20000 in
theorem ggX11_beginsAll_X11_begins : GoodIn wsX11_beginsAll wsX11_begins := goodIn_r _ [6, 7, 8, 9, 10, 11, 12, 13, 14, 15, 16, 17, 18, 19, 20, 21, 22, 23, 24, 25, 26, 27, 28, 29, 30, 31, 32, 33, 34, 35, 36, 37, 38, 39, 40, 41, 42, 43, 44, 45, 46, 47, 48, 49] (by decide +kernel) (by decide +kernel)
set_option maxRecDepth 20000 in
theorem gX11_beginsAll_X11_begins : GoodIn wsX11_beginsAll (wsV RX11 140 RX11 yX11_begins wsX11_begins) := goodIn_app (goodIn_of _ (by decide +kernel)) ggX11_beginsAll_X11_begins
theorem dX11_beginsAll_0 : decode cX11_beginsAll 0 = .ok (.aload_n 0, 1) := by decide +kernel
theorem dX11_beginsAll_1 : decode cX11_beginsAll 1 = .ok (.iconst (-1), 1) := by decide +kernel
theorem dX11_beginsAll_2 : decode cX11_beginsAll 2 = .ok (.iconst 1, 1) := by decide +kernel
theorem dX11_beginsAll_3 : decode cX11_beginsAll 3 = .ok (.aload_n 0, 1) := by decide +kernel
theorem dX11_beginsAll_4 : decode cX11_beginsAll 4 = .ok (.getfield 87, 3) := by decide +kernel
theorem dX11_beginsAll_7 : decode cX11_beginsAll 7 = .ok (.ishl, 1) := by decide +kernel
theorem dX11_beginsAll_8 : decode cX11_beginsAll 8 = .ok (.iconst 1, 1) := by decide +kernel
theorem dX11_beginsAll_9 : decode cX11_beginsAll 9 = .ok (.isub, 1) := by decide +kernel
theorem dX11_beginsAll_10 : decode cX11_beginsAll 10 = .ok (.invokevirtual 140, 3) := by decide +kernel
theorem dX11_beginsAll_13 : decode cX11_beginsAll 13 = .ok (.return_, 1) := by decide +kernel
theorem dX11_goesOn_0 : decode cX11_goesOn 0 = .ok (.aload_n 0, 1) := by decide +kernel
theorem dX11_goesOn_1 : decode cX11_goesOn 1 = .ok (.getfield 134, 3) := by decide +kernel
theorem dX11_goesOn_4 : decode cX11_goesOn 4 = .ok (.iconst 2, 1) := by decide +kernel
theorem dX11_goesOn_5 : decode cX11_goesOn 5 = .ok (.isub, 1) := by decide +kernel
theorem dX11_goesOn_6 : decode cX11_goesOn 6 = .ok (.istore_n 1, 1) := by decide +kernel
theorem dX11_goesOn_7 : decode cX11_goesOn 7 = .ok (.iload_n 1, 1) := by decide +kernel
theorem dX11_goesOn_8 : decode cX11_goesOn 8 = .ok (.ifCond .lt 26, 3) := by decide +kernel
theorem dX11_goesOn_11 : decode cX11_goesOn 11 = .ok (.aload_n 0, 1) := by decide +kernel
theorem dX11_goesOn_12 : decode cX11_goesOn 12 = .ok (.getfield 25, 3) := by decide +kernel
theorem dX11_goesOn_15 : decode cX11_goesOn 15 = .ok (.iload_n 1, 1) := by decide +kernel
theorem dX11_goesOn_16 : decode cX11_goesOn 16 = .ok (.iaload, 1) := by decide +kernel
theorem dX11_goesOn_17 : decode cX11_goesOn 17 = .ok (.aload_n 0, 1) := by decide +kernel
theorem dX11_goesOn_18 : decode cX11_goesOn 18 = .ok (.getfield 25, 3) := by decide +kernel
theorem dX11_goesOn_21 : decode cX11_goesOn 21 = .ok (.iload_n 1, 1) := by decide +kernel
theorem dX11_goesOn_22 : decode cX11_goesOn 22 = .ok (.iconst 1, 1) := by decide +kernel
theorem dX11_goesOn_23 : decode cX11_goesOn 23 = .ok (.iadd, 1) := by decide +kernel
theorem dX11_goesOn_24 : decode cX11_goesOn 24 = .ok (.iaload, 1) := by decide +kernel
theorem dX11_goesOn_25 : decode cX11_goesOn 25 = .ok (.if_icmp .le 9, 3) := by decide +kernel
theorem dX11_goesOn_28 : decode cX11_goesOn 28 = .ok (.iinc 1 (-1), 3) := by decide +kernel
theorem dX11_goesOn_31 : decode cX11_goesOn 31 = .ok (.goto (-24), 3) := by decide +kernel
theorem dX11_goesOn_34 : decode cX11_goesOn 34 = .ok (.iload_n 1, 1) := by decide +kernel
theorem dX11_goesOn_35 : decode cX11_goesOn 35 = .ok (.ifCond .ge 5, 3) := by decide +kernel
theorem dX11_goesOn_38 : decode cX11_goesOn 38 = .ok (.iconst 0, 1) := by decide +kernel
theorem dX11_goesOn_39 : decode cX11_goesOn 39 = .ok (.ireturn, 1) := by decide +kernel
theorem dX11_goesOn_40 : decode cX11_goesOn 40 = .ok (.aload_n 0, 1) := by decide +kernel
theorem dX11_goesOn_41 : decode cX11_goesOn 41 = .ok (.getfield 134, 3) := by decide +kernel
theorem dX11_goesOn_44 : decode cX11_goesOn 44 = .ok (.iconst 1, 1) := by decide +kernel
theorem dX11_goesOn_45 : decode cX11_goesOn 45 = .ok (.isub, 1) := by decide +kernel
theorem dX11_goesOn_46 : decode cX11_goesOn 46 = .ok (.istore_n 2, 1) := by decide +kernel
theorem dX11_goesOn_47 : decode cX11_goesOn 47 = .ok (.aload_n 0, 1) := by decide +kernel
theorem dX11_goesOn_48 : decode cX11_goesOn 48 = .ok (.getfield 25, 3) := by decide +kernel
theorem dX11_goesOn_51 : decode cX11_goesOn 51 = .ok (.iload_n 2, 1) := by decide +kernel
theorem dX11_goesOn_52 : decode cX11_goesOn 52 = .ok (.iaload, 1) := by decide +kernel
theorem dX11_goesOn_53 : decode cX11_goesOn 53 = .ok (.aload_n 0, 1) := by decide +kernel
theorem dX11_goesOn_54 : decode cX11_goesOn 54 = .ok (.getfield 25, 3) := by decide +kernel
theorem dX11_goesOn_57 : decode cX11_goesOn 57 = .ok (.iload_n 1, 1) := by decide +kernel
theorem dX11_goesOn_58 : decode cX11_goesOn 58 = .ok (.iaload, 1) := by decide +kernel
theorem dX11_goesOn_59 : decode cX11_goesOn 59 = .ok (.if_icmp .ge 9, 3) := by decide +kernel
theorem dX11_goesOn_62 : decode cX11_goesOn 62 = .ok (.iinc 2 (-1), 3) := by decide +kernel
theorem dX11_goesOn_65 : decode cX11_goesOn 65 = .ok (.goto (-18), 3) := by decide +kernel
theorem dX11_goesOn_68 : decode cX11_goesOn 68 = .ok (.aload_n 0, 1) := by decide +kernel
theorem dX11_goesOn_69 : decode cX11_goesOn 69 = .ok (.getfield 25, 3) := by decide +kernel
theorem dX11_goesOn_72 : decode cX11_goesOn 72 = .ok (.iload_n 1, 1) := by decide +kernel
theorem dX11_goesOn_73 : decode cX11_goesOn 73 = .ok (.iaload, 1) := by decide +kernel
theorem dX11_goesOn_74 : decode cX11_goesOn 74 = .ok (.istore_n 3, 1) := by decide +kernel
theorem dX11_goesOn_75 : decode cX11_goesOn 75 = .ok (.aload_n 0, 1) := by decide +kernel
theorem dX11_goesOn_76 : decode cX11_goesOn 76 = .ok (.getfield 25, 3) := by decide +kernel
theorem dX11_goesOn_79 : decode cX11_goesOn 79 = .ok (.iload_n 1, 1) := by decide +kernel
theorem dX11_goesOn_80 : decode cX11_goesOn 80 = .ok (.aload_n 0, 1) := by decide +kernel
theorem dX11_goesOn_81 : decode cX11_goesOn 81 = .ok (.getfield 25, 3) := by decide +kernel
theorem dX11_goesOn_84 : decode cX11_goesOn 84 = .ok (.iload_n 2, 1) := by decide +kernel
theorem dX11_goesOn_85 : decode cX11_goesOn 85 = .ok (.iaload, 1) := by decide +kernel
theorem dX11_goesOn_86 : decode cX11_goesOn 86 = .ok (.iastore, 1) := by decide +kernel
theorem dX11_goesOn_87 : decode cX11_goesOn 87 = .ok (.aload_n 0, 1) := by decide +kernel
theorem dX11_goesOn_88 : decode cX11_goesOn 88 = .ok (.getfield 25, 3) := by decide +kernel
theorem dX11_goesOn_91 : decode cX11_goesOn 91 = .ok (.iload_n 2, 1) := by decide +kernel
theorem dX11_goesOn_92 : decode cX11_goesOn 92 = .ok (.iload_n 3, 1) := by decide +kernel
theorem dX11_goesOn_93 : decode cX11_goesOn 93 = .ok (.iastore, 1) := by decide +kernel
theorem dX11_goesOn_94 : decode cX11_goesOn 94 = .ok (.aload_n 0, 1) := by decide +kernel
theorem dX11_goesOn_95 : decode cX11_goesOn 95 = .ok (.getfield 134, 3) := by decide +kernel
theorem dX11_goesOn_98 : decode cX11_goesOn 98 = .ok (.iconst 1, 1) := by decide +kernel
theorem dX11_goesOn_99 : decode cX11_goesOn 99 = .ok (.isub, 1) := by decide +kernel
theorem dX11_goesOn_100 : decode cX11_goesOn 100 = .ok (.istore 4, 2) := by decide +kernel
theorem dX11_goesOn_102 : decode cX11_goesOn 102 = .ok (.iload_n 1, 1) := by decide +kernel
theorem dX11_goesOn_103 : decode cX11_goesOn 103 = .ok (.iconst 1, 1) := by decide +kernel
theorem dX11_goesOn_104 : decode cX11_goesOn 104 = .ok (.iadd, 1) := by decide +kernel
theorem dX11_goesOn_105 : decode cX11_goesOn 105 = .ok (.istore 5, 2) := by decide +kernel
theorem dX11_goesOn_107 : decode cX11_goesOn 107 = .ok (.iload 5, 2) := by decide +kernel
theorem dX11_goesOn_109 : decode cX11_goesOn 109 = .ok (.iload 4, 2) := by decide +kernel
theorem dX11_goesOn_111 : decode cX11_goesOn 111 = .ok (.if_icmp .ge 44, 3) := by decide +kernel
theorem dX11_goesOn_114 : decode cX11_goesOn 114 = .ok (.aload_n 0, 1) := by decide +kernel
theorem dX11_goesOn_115 : decode cX11_goesOn 115 = .ok (.getfield 25, 3) := by decide +kernel
theorem dX11_goesOn_118 : decode cX11_goesOn 118 = .ok (.iload 5, 2) := by decide +kernel
theorem dX11_goesOn_120 : decode cX11_goesOn 120 = .ok (.iaload, 1) := by decide +kernel
theorem dX11_goesOn_121 : decode cX11_goesOn 121 = .ok (.istore 6, 2) := by decide +kernel
theorem dX11_goesOn_123 : decode cX11_goesOn 123 = .ok (.aload_n 0, 1) := by decide +kernel
theorem dX11_goesOn_124 : decode cX11_goesOn 124 = .ok (.getfield 25, 3) := by decide +kernel
theorem dX11_goesOn_127 : decode cX11_goesOn 127 = .ok (.iload 5, 2) := by decide +kernel
theorem dX11_goesOn_129 : decode cX11_goesOn 129 = .ok (.aload_n 0, 1) := by decide +kernel
theorem dX11_goesOn_130 : decode cX11_goesOn 130 = .ok (.getfield 25, 3) := by decide +kernel
theorem dX11_goesOn_133 : decode cX11_goesOn 133 = .ok (.iload 4, 2) := by decide +kernel
theorem dX11_goesOn_135 : decode cX11_goesOn 135 = .ok (.iaload, 1) := by decide +kernel
theorem dX11_goesOn_136 : decode cX11_goesOn 136 = .ok (.iastore, 1) := by decide +kernel
theorem dX11_goesOn_137 : decode cX11_goesOn 137 = .ok (.aload_n 0, 1) := by decide +kernel
theorem dX11_goesOn_138 : decode cX11_goesOn 138 = .ok (.getfield 25, 3) := by decide +kernel
theorem dX11_goesOn_141 : decode cX11_goesOn 141 = .ok (.iload 4, 2) := by decide +kernel
theorem dX11_goesOn_143 : decode cX11_goesOn 143 = .ok (.iload 6, 2) := by decide +kernel
theorem dX11_goesOn_145 : decode cX11_goesOn 145 = .ok (.iastore, 1) := by decide +kernel
theorem dX11_goesOn_146 : decode cX11_goesOn 146 = .ok (.iinc 4 (-1), 3) := by decide +kernel
theorem dX11_goesOn_149 : decode cX11_goesOn 149 = .ok (.iinc 5 1, 3) := by decide +kernel
theorem dX11_goesOn_152 : decode cX11_goesOn 152 = .ok (.goto (-45), 3) := by decide +kernel
theorem dX11_goesOn_155 : decode cX11_goesOn 155 = .ok (.iconst 1, 1) := by decide +kernel
theorem dX11_goesOn_156 : decode cX11_goesOn 156 = .ok (.ireturn, 1) := by decide +kernel
set_option maxRecDepth 20000 in
theorem ggX11_gapsOf_X11_has : GoodIn wsX11_gapsOf wsX11_has := goodIn_r _ [7] (by decide +kernel) (by decide +kernel)
set_option maxRecDepth 20000 in
theorem gX11_gapsOf_X11_has : GoodIn wsX11_gapsOf (va_wsS RX11 114 yX11_has wsX11_has) := goodIn_app (goodIn_of _ (by decide +kernel)) ggX11_gapsOf_X11_has
theorem dX11_gapsOf_0 : decode cX11_gapsOf 0 = .ok (.iconst (-1), 1) := by decide +kernel
theorem dX11_gapsOf_1 : decode cX11_gapsOf 1 = .ok (.istore_n 2, 1) := by decide +kernel
theorem dX11_gapsOf_2 : decode cX11_gapsOf 2 = .ok (.iconst (-1), 1) := by decide +kernel
theorem dX11_gapsOf_3 : decode cX11_gapsOf 3 = .ok (.istore_n 3, 1) := by decide +kernel
theorem dX11_gapsOf_4 : decode cX11_gapsOf 4 = .ok (.iconst 0, 1) := by decide +kernel
theorem dX11_gapsOf_5 : decode cX11_gapsOf 5 = .ok (.istore 4, 2) := by decide +kernel
theorem dX11_gapsOf_7 : decode cX11_gapsOf 7 = .ok (.iconst 0, 1) := by decide +kernel
theorem dX11_gapsOf_8 : decode cX11_gapsOf 8 = .ok (.istore 5, 2) := by decide +kernel
theorem dX11_gapsOf_10 : decode cX11_gapsOf 10 = .ok (.iload 5, 2) := by decide +kernel
theorem dX11_gapsOf_12 : decode cX11_gapsOf 12 = .ok (.aload_n 0, 1) := by decide +kernel
theorem dX11_gapsOf_13 : decode cX11_gapsOf 13 = .ok (.getfield 134, 3) := by decide +kernel
theorem dX11_gapsOf_16 : decode cX11_gapsOf 16 = .ok (.if_icmp .ge 49, 3) := by decide +kernel
theorem dX11_gapsOf_19 : decode cX11_gapsOf 19 = .ok (.aload_n 0, 1) := by decide +kernel
theorem dX11_gapsOf_20 : decode cX11_gapsOf 20 = .ok (.getfield 19, 3) := by decide +kernel
theorem dX11_gapsOf_23 : decode cX11_gapsOf 23 = .ok (.aload_n 0, 1) := by decide +kernel
theorem dX11_gapsOf_24 : decode cX11_gapsOf 24 = .ok (.getfield 25, 3) := by decide +kernel
theorem dX11_gapsOf_27 : decode cX11_gapsOf 27 = .ok (.iload 5, 2) := by decide +kernel
theorem dX11_gapsOf_29 : decode cX11_gapsOf 29 = .ok (.iaload, 1) := by decide +kernel
theorem dX11_gapsOf_30 : decode cX11_gapsOf 30 = .ok (.iaload, 1) := by decide +kernel
theorem dX11_gapsOf_31 : decode cX11_gapsOf 31 = .ok (.iload_n 1, 1) := by decide +kernel
theorem dX11_gapsOf_32 : decode cX11_gapsOf 32 = .ok (.invokestatic 114, 3) := by decide +kernel
theorem dX11_gapsOf_35 : decode cX11_gapsOf 35 = .ok (.ifCond .ne 6, 3) := by decide +kernel
theorem dX11_gapsOf_38 : decode cX11_gapsOf 38 = .ok (.goto 21, 3) := by decide +kernel
theorem dX11_gapsOf_41 : decode cX11_gapsOf 41 = .ok (.iload_n 2, 1) := by decide +kernel
theorem dX11_gapsOf_42 : decode cX11_gapsOf 42 = .ok (.iconst (-1), 1) := by decide +kernel
theorem dX11_gapsOf_43 : decode cX11_gapsOf 43 = .ok (.if_icmp .ne 8, 3) := by decide +kernel
theorem dX11_gapsOf_46 : decode cX11_gapsOf 46 = .ok (.iload 5, 2) := by decide +kernel
theorem dX11_gapsOf_48 : decode cX11_gapsOf 48 = .ok (.goto 4, 3) := by decide +kernel
theorem dX11_gapsOf_51 : decode cX11_gapsOf 51 = .ok (.iload_n 2, 1) := by decide +kernel
theorem dX11_gapsOf_52 : decode cX11_gapsOf 52 = .ok (.istore_n 2, 1) := by decide +kernel
theorem dX11_gapsOf_53 : decode cX11_gapsOf 53 = .ok (.iload 5, 2) := by decide +kernel
theorem dX11_gapsOf_55 : decode cX11_gapsOf 55 = .ok (.istore_n 3, 1) := by decide +kernel
theorem dX11_gapsOf_56 : decode cX11_gapsOf 56 = .ok (.iinc 4 1, 3) := by decide +kernel
theorem dX11_gapsOf_59 : decode cX11_gapsOf 59 = .ok (.iinc 5 1, 3) := by decide +kernel
theorem dX11_gapsOf_62 : decode cX11_gapsOf 62 = .ok (.goto (-52), 3) := by decide +kernel
theorem dX11_gapsOf_65 : decode cX11_gapsOf 65 = .ok (.iload 4, 2) := by decide +kernel
theorem dX11_gapsOf_67 : decode cX11_gapsOf 67 = .ok (.ifCond .ne 7, 3) := by decide +kernel
theorem dX11_gapsOf_70 : decode cX11_gapsOf 70 = .ok (.iconst 0, 1) := by decide +kernel
theorem dX11_gapsOf_71 : decode cX11_gapsOf 71 = .ok (.goto 11, 3) := by decide +kernel
theorem dX11_gapsOf_74 : decode cX11_gapsOf 74 = .ok (.iload_n 3, 1) := by decide +kernel
theorem dX11_gapsOf_75 : decode cX11_gapsOf 75 = .ok (.iload_n 2, 1) := by decide +kernel
theorem dX11_gapsOf_76 : decode cX11_gapsOf 76 = .ok (.isub, 1) := by decide +kernel
theorem dX11_gapsOf_77 : decode cX11_gapsOf 77 = .ok (.iconst 1, 1) := by decide +kernel
theorem dX11_gapsOf_78 : decode cX11_gapsOf 78 = .ok (.iadd, 1) := by decide +kernel
theorem dX11_gapsOf_79 : decode cX11_gapsOf 79 = .ok (.iload 4, 2) := by decide +kernel
theorem dX11_gapsOf_81 : decode cX11_gapsOf 81 = .ok (.isub, 1) := by decide +kernel
theorem dX11_gapsOf_82 : decode cX11_gapsOf 82 = .ok (.ireturn, 1) := by decide +kernel
set_option maxRecDepth 20000 in
theorem ggX11_gapsNow_X11_has : GoodIn wsX11_gapsNow wsX11_has := goodIn_r _ [6] (by decide +kernel) (by decide +kernel)
set_option maxRecDepth 20000 in
theorem gX11_gapsNow_X11_has : GoodIn wsX11_gapsNow (va_wsS RX11 114 yX11_has wsX11_has) := goodIn_app (goodIn_of _ (by decide +kernel)) ggX11_gapsNow_X11_has
set_option maxRecDepth 20000 in
theorem ggX11_gapsNow_X11_gapsOf : GoodIn wsX11_gapsNow wsX11_gapsOf := goodIn_r _ [10, 11, 12, 13, 3, 4, 5, 6, 14, 15, 16, 17, 18, 19, 20, 21, 22, 23, 24, 25, 26, 27, 28, 29, 30, 31, 32, 33, 34, 35, 36, 37, 38, 39, 40, 41, 42, 43, 44, 45, 46, 47, 48, 49, 50, 51, 52] (by decide +kernel) (by decide +kernel)
set_option maxRecDepth 20000 in
theorem gX11_gapsNow_X11_gapsOf : GoodIn wsX11_gapsNow (wsV RX11 144 RX11 yX11_gapsOf wsX11_gapsOf) := goodIn_app (goodIn_of _ (by decide +kernel)) ggX11_gapsNow_X11_gapsOf
theorem dX11_gapsNow_0 : decode cX11_gapsNow 0 = .ok (.iconst 0, 1) := by decide +kernel
theorem dX11_gapsNow_1 : decode cX11_gapsNow 1 = .ok (.istore_n 1, 1) := by decide +kernel
theorem dX11_gapsNow_2 : decode cX11_gapsNow 2 = .ok (.iconst 0, 1) := by decide +kernel
theorem dX11_gapsNow_3 : decode cX11_gapsNow 3 = .ok (.istore_n 2, 1) := by decide +kernel
theorem dX11_gapsNow_4 : decode cX11_gapsNow 4 = .ok (.iload_n 2, 1) := by decide +kernel
theorem dX11_gapsNow_5 : decode cX11_gapsNow 5 = .ok (.aload_n 0, 1) := by decide +kernel
theorem dX11_gapsNow_6 : decode cX11_gapsNow 6 = .ok (.getfield 87, 3) := by decide +kernel
theorem dX11_gapsNow_9 : decode cX11_gapsNow 9 = .ok (.if_icmp .ge 32, 3) := by decide +kernel
theorem dX11_gapsNow_12 : decode cX11_gapsNow 12 = .ok (.iload_n 1, 1) := by decide +kernel
theorem dX11_gapsNow_13 : decode cX11_gapsNow 13 = .ok (.aload_n 0, 1) := by decide +kernel
theorem dX11_gapsNow_14 : decode cX11_gapsNow 14 = .ok (.getfield 137, 3) := by decide +kernel
theorem dX11_gapsNow_17 : decode cX11_gapsNow 17 = .ok (.iload_n 2, 1) := by decide +kernel
theorem dX11_gapsNow_18 : decode cX11_gapsNow 18 = .ok (.invokestatic 114, 3) := by decide +kernel
theorem dX11_gapsNow_21 : decode cX11_gapsNow 21 = .ok (.ifCond .eq 11, 3) := by decide +kernel
theorem dX11_gapsNow_24 : decode cX11_gapsNow 24 = .ok (.aload_n 0, 1) := by decide +kernel
theorem dX11_gapsNow_25 : decode cX11_gapsNow 25 = .ok (.iload_n 2, 1) := by decide +kernel
theorem dX11_gapsNow_26 : decode cX11_gapsNow 26 = .ok (.invokevirtual 144, 3) := by decide +kernel
theorem dX11_gapsNow_29 : decode cX11_gapsNow 29 = .ok (.goto 4, 3) := by decide +kernel
theorem dX11_gapsNow_32 : decode cX11_gapsNow 32 = .ok (.iconst 0, 1) := by decide +kernel
theorem dX11_gapsNow_33 : decode cX11_gapsNow 33 = .ok (.iadd, 1) := by decide +kernel
theorem dX11_gapsNow_34 : decode cX11_gapsNow 34 = .ok (.istore_n 1, 1) := by decide +kernel
theorem dX11_gapsNow_35 : decode cX11_gapsNow 35 = .ok (.iinc 2 1, 3) := by decide +kernel
theorem dX11_gapsNow_38 : decode cX11_gapsNow 38 = .ok (.goto (-34), 3) := by decide +kernel
theorem dX11_gapsNow_41 : decode cX11_gapsNow 41 = .ok (.iload_n 1, 1) := by decide +kernel
theorem dX11_gapsNow_42 : decode cX11_gapsNow 42 = .ok (.ireturn, 1) := by decide +kernel
theorem dX11_digits_0 : decode cX11_digits 0 = .ok (.iconst 0, 1) := by decide +kernel
theorem dX11_digits_1 : decode cX11_digits 1 = .ok (.istore_n 1, 1) := by decide +kernel
theorem dX11_digits_2 : decode cX11_digits 2 = .ok (.iconst 0, 1) := by decide +kernel
theorem dX11_digits_3 : decode cX11_digits 3 = .ok (.istore_n 2, 1) := by decide +kernel
theorem dX11_digits_4 : decode cX11_digits 4 = .ok (.iload_n 2, 1) := by decide +kernel
theorem dX11_digits_5 : decode cX11_digits 5 = .ok (.aload_n 0, 1) := by decide +kernel
theorem dX11_digits_6 : decode cX11_digits 6 = .ok (.getfield 134, 3) := by decide +kernel
theorem dX11_digits_9 : decode cX11_digits 9 = .ok (.if_icmp .ge 23, 3) := by decide +kernel
theorem dX11_digits_12 : decode cX11_digits 12 = .ok (.bipush 10, 2) := by decide +kernel
theorem dX11_digits_14 : decode cX11_digits 14 = .ok (.iload_n 1, 1) := by decide +kernel
theorem dX11_digits_15 : decode cX11_digits 15 = .ok (.imul, 1) := by decide +kernel
theorem dX11_digits_16 : decode cX11_digits 16 = .ok (.aload_n 0, 1) := by decide +kernel
theorem dX11_digits_17 : decode cX11_digits 17 = .ok (.getfield 25, 3) := by decide +kernel
theorem dX11_digits_20 : decode cX11_digits 20 = .ok (.iload_n 2, 1) := by decide +kernel
theorem dX11_digits_21 : decode cX11_digits 21 = .ok (.iaload, 1) := by decide +kernel
theorem dX11_digits_22 : decode cX11_digits 22 = .ok (.iadd, 1) := by decide +kernel
theorem dX11_digits_23 : decode cX11_digits 23 = .ok (.iconst 1, 1) := by decide +kernel
theorem dX11_digits_24 : decode cX11_digits 24 = .ok (.iadd, 1) := by decide +kernel
theorem dX11_digits_25 : decode cX11_digits 25 = .ok (.istore_n 1, 1) := by decide +kernel
theorem dX11_digits_26 : decode cX11_digits 26 = .ok (.iinc 2 1, 3) := by decide +kernel
theorem dX11_digits_29 : decode cX11_digits 29 = .ok (.goto (-25), 3) := by decide +kernel
theorem dX11_digits_32 : decode cX11_digits 32 = .ok (.iload_n 1, 1) := by decide +kernel
theorem dX11_digits_33 : decode cX11_digits 33 = .ok (.ireturn, 1) := by decide +kernel
set_option maxRecDepth 20000 in
theorem ggX11_gaplessOnes_X11_beginsAll : GoodIn wsX11_gaplessOnes wsX11_beginsAll := goodIn_r _ [7, 8, 9, 10, 11, 6, 12, 13, 14, 15, 16, 37, 38, 39, 40, 41, 42, 43, 44, 45, 46, 47, 48, 49, 50, 51, 52, 53, 54, 55, 56, 57, 58, 59, 60, 61, 62, 63, 64, 65, 66, 67, 68, 69, 70, 71, 72, 73, 74, 75] (by decide +kernel) (by decide +kernel)
set_option maxRecDepth 20000 in
theorem gX11_gaplessOnes_X11_beginsAll : GoodIn wsX11_gaplessOnes (wsV RX11 150 RX11 yX11_beginsAll wsX11_beginsAll) := goodIn_app (goodIn_of _ (by decide +kernel)) ggX11_gaplessOnes_X11_beginsAll
set_option maxRecDepth 20000 in
theorem ggX11_gaplessOnes_X11_gapsNow : GoodIn wsX11_gaplessOnes wsX11_gapsNow := goodIn_r _ [20, 8, 16, 21, 22, 6, 23, 24, 25, 26, 27, 13, 28, 15, 37, 38, 39, 40, 41, 42, 43, 44, 45, 46, 47, 48, 49, 50, 51, 52, 53, 54, 55, 56, 57, 58, 59, 60, 61, 62, 63, 64, 65, 66, 67, 68, 69, 70, 71, 72, 73, 74, 75] (by decide +kernel) (by decide +kernel)
set_option maxRecDepth 20000 in
theorem gX11_gaplessOnes_X11_gapsNow : GoodIn wsX11_gaplessOnes (wsV RX11 153 RX11 yX11_gapsNow wsX11_gapsNow) := goodIn_app (goodIn_of _ (by decide +kernel)) ggX11_gaplessOnes_X11_gapsNow
set_option maxRecDepth 20000 in
theorem ggX11_gaplessOnes_X11_digits : GoodIn wsX11_gaplessOnes wsX11_digits := goodIn_r _ [32, 13, 15, 37, 38, 39, 40, 41, 42, 43, 44, 45, 46, 47, 48, 49, 50, 51, 52, 53, 54, 55, 56, 57, 58, 59, 60, 61, 62, 63, 64, 65, 66, 67, 68, 69, 70, 71, 72, 73, 74, 75] (by decide +kernel) (by decide +kernel)
set_option maxRecDepth 20000 in
theorem gX11_gaplessOnes_X11_digits : GoodIn wsX11_gaplessOnes (wsV RX11 156 RX11 yX11_digits wsX11_digits) := goodIn_app (goodIn_of _ (by decide +kernel)) ggX11_gaplessOnes_X11_digits
set_option maxRecDepth 20000 in
theorem ggX11_gaplessOnes_X11_goesOn : GoodIn wsX11_gaplessOnes wsX11_goesOn := goodIn_r _ [36, 13, 15, 37, 38, 39, 40, 41, 42, 43, 44, 45, 46, 47, 48, 49, 50, 51, 52, 53, 54, 55, 56, 57, 58, 59, 60, 61, 62, 63, 64, 65, 66, 67, 68, 69, 70, 71, 72, 73, 74, 75] (by decide +kernel) (by decide +kernel)
set_option maxRecDepth 20000 in
theorem gX11_gaplessOnes_X11_goesOn : GoodIn wsX11_gaplessOnes (wsV RX11 159 RX11 yX11_goesOn wsX11_goesOn) := goodIn_app (goodIn_of _ (by decide +kernel)) ggX11_gaplessOnes_X11_goesOn
theorem dX11_gaplessOnes_0 : decode cX11_gaplessOnes 0 = .ok (.aload_n 0, 1) := by decide +kernel
theorem dX11_gaplessOnes_1 : decode cX11_gaplessOnes 1 = .ok (.iconst 0, 1) := by decide +kernel
theorem dX11_gaplessOnes_2 : decode cX11_gaplessOnes 2 = .ok (.putfield 147, 3) := by decide +kernel
theorem dX11_gaplessOnes_5 : decode cX11_gaplessOnes 5 = .ok (.aload_n 0, 1) := by decide +kernel
theorem dX11_gaplessOnes_6 : decode cX11_gaplessOnes 6 = .ok (.invokevirtual 150, 3) := by decide +kernel
theorem dX11_gaplessOnes_9 : decode cX11_gaplessOnes 9 = .ok (.iconst 1, 1) := by decide +kernel
theorem dX11_gaplessOnes_10 : decode cX11_gaplessOnes 10 = .ok (.istore_n 1, 1) := by decide +kernel
theorem dX11_gaplessOnes_11 : decode cX11_gaplessOnes 11 = .ok (.iload_n 1, 1) := by decide +kernel
theorem dX11_gaplessOnes_12 : decode cX11_gaplessOnes 12 = .ok (.ifCond .eq 41, 3) := by decide +kernel
theorem dX11_gaplessOnes_15 : decode cX11_gaplessOnes 15 = .ok (.aload_n 0, 1) := by decide +kernel
theorem dX11_gaplessOnes_16 : decode cX11_gaplessOnes 16 = .ok (.invokevirtual 153, 3) := by decide +kernel
theorem dX11_gaplessOnes_19 : decode cX11_gaplessOnes 19 = .ok (.ifCond .ne 26, 3) := by decide +kernel
theorem dX11_gaplessOnes_22 : decode cX11_gaplessOnes 22 = .ok (.aload_n 0, 1) := by decide +kernel
theorem dX11_gaplessOnes_23 : decode cX11_gaplessOnes 23 = .ok (.getfield 28, 3) := by decide +kernel
theorem dX11_gaplessOnes_26 : decode cX11_gaplessOnes 26 = .ok (.aload_n 0, 1) := by decide +kernel
theorem dX11_gaplessOnes_27 : decode cX11_gaplessOnes 27 = .ok (.getfield 147, 3) := by decide +kernel
theorem dX11_gaplessOnes_30 : decode cX11_gaplessOnes 30 = .ok (.aload_n 0, 1) := by decide +kernel
theorem dX11_gaplessOnes_31 : decode cX11_gaplessOnes 31 = .ok (.invokevirtual 156, 3) := by decide +kernel
theorem dX11_gaplessOnes_34 : decode cX11_gaplessOnes 34 = .ok (.iastore, 1) := by decide +kernel
theorem dX11_gaplessOnes_35 : decode cX11_gaplessOnes 35 = .ok (.aload_n 0, 1) := by decide +kernel
theorem dX11_gaplessOnes_36 : decode cX11_gaplessOnes 36 = .ok (.dup, 1) := by decide +kernel
theorem dX11_gaplessOnes_37 : decode cX11_gaplessOnes 37 = .ok (.getfield 147, 3) := by decide +kernel
theorem dX11_gaplessOnes_40 : decode cX11_gaplessOnes 40 = .ok (.iconst 1, 1) := by decide +kernel
theorem dX11_gaplessOnes_41 : decode cX11_gaplessOnes 41 = .ok (.iadd, 1) := by decide +kernel
theorem dX11_gaplessOnes_42 : decode cX11_gaplessOnes 42 = .ok (.putfield 147, 3) := by decide +kernel
theorem dX11_gaplessOnes_45 : decode cX11_gaplessOnes 45 = .ok (.aload_n 0, 1) := by decide +kernel
theorem dX11_gaplessOnes_46 : decode cX11_gaplessOnes 46 = .ok (.invokevirtual 159, 3) := by decide +kernel
theorem dX11_gaplessOnes_49 : decode cX11_gaplessOnes 49 = .ok (.istore_n 1, 1) := by decide +kernel
theorem dX11_gaplessOnes_50 : decode cX11_gaplessOnes 50 = .ok (.goto (-39), 3) := by decide +kernel
theorem dX11_gaplessOnes_53 : decode cX11_gaplessOnes 53 = .ok (.return_, 1) := by decide +kernel
set_option maxRecDepth 20000 in
theorem ggX11_isOrder_X11_isGrave : GoodIn wsX11_isOrder wsX11_isGrave := goodIn_r _ [10, 1, 11, 12, 9, 13, 17, 18, 19, 20, 21, 22, 23, 24, 25, 26, 27, 28, 29, 30, 31, 32, 33, 34, 35, 36, 37, 38, 39, 40, 41, 42, 43, 44, 45, 46, 47, 48, 49, 50, 51, 52, 53, 54, 55] (by decide +kernel) (by decide +kernel)
set_option maxRecDepth 20000 in
theorem gX11_isOrder_X11_isGrave : GoodIn wsX11_isOrder (wsV RX11 90 RX11 yX11_isGrave wsX11_isGrave) := goodIn_app (goodIn_of _ (by decide +kernel)) ggX11_isOrder_X11_isGrave
set_option maxRecDepth 20000 in
theorem ggX11_isOrder_X11_has : GoodIn wsX11_isOrder wsX11_has := goodIn_r _ [16] (by decide +kernel) (by decide +kernel)
set_option maxRecDepth 20000 in
theorem gX11_isOrder_X11_has : GoodIn wsX11_isOrder (va_wsS RX11 114 yX11_has wsX11_has) := goodIn_app (goodIn_of _ (by decide +kernel)) ggX11_isOrder_X11_has
theorem dX11_isOrder_0 : decode cX11_isOrder 0 = .ok (.iload_n 1, 1) := by decide +kernel
theorem dX11_isOrder_1 : decode cX11_isOrder 1 = .ok (.istore_n 2, 1) := by decide +kernel
theorem dX11_isOrder_2 : decode cX11_isOrder 2 = .ok (.iconst 0, 1) := by decide +kernel
theorem dX11_isOrder_3 : decode cX11_isOrder 3 = .ok (.istore_n 3, 1) := by decide +kernel
theorem dX11_isOrder_4 : decode cX11_isOrder 4 = .ok (.aload_n 0, 1) := by decide +kernel
theorem dX11_isOrder_5 : decode cX11_isOrder 5 = .ok (.aload_n 0, 1) := by decide +kernel
theorem dX11_isOrder_6 : decode cX11_isOrder 6 = .ok (.getfield 80, 3) := by decide +kernel
theorem dX11_isOrder_9 : decode cX11_isOrder 9 = .ok (.putfield 134, 3) := by decide +kernel
theorem dX11_isOrder_12 : decode cX11_isOrder 12 = .ok (.aload_n 0, 1) := by decide +kernel
theorem dX11_isOrder_13 : decode cX11_isOrder 13 = .ok (.iconst 1, 1) := by decide +kernel
theorem dX11_isOrder_14 : decode cX11_isOrder 14 = .ok (.aload_n 0, 1) := by decide +kernel
theorem dX11_isOrder_15 : decode cX11_isOrder 15 = .ok (.getfield 87, 3) := by decide +kernel
theorem dX11_isOrder_18 : decode cX11_isOrder 18 = .ok (.ishl, 1) := by decide +kernel
theorem dX11_isOrder_19 : decode cX11_isOrder 19 = .ok (.iconst 1, 1) := by decide +kernel
theorem dX11_isOrder_20 : decode cX11_isOrder 20 = .ok (.isub, 1) := by decide +kernel
theorem dX11_isOrder_21 : decode cX11_isOrder 21 = .ok (.putfield 137, 3) := by decide +kernel
theorem dX11_isOrder_24 : decode cX11_isOrder 24 = .ok (.aload_n 0, 1) := by decide +kernel
theorem dX11_isOrder_25 : decode cX11_isOrder 25 = .ok (.getfield 80, 3) := by decide +kernel
theorem dX11_isOrder_28 : decode cX11_isOrder 28 = .ok (.iconst 1, 1) := by decide +kernel
theorem dX11_isOrder_29 : decode cX11_isOrder 29 = .ok (.isub, 1) := by decide +kernel
theorem dX11_isOrder_30 : decode cX11_isOrder 30 = .ok (.istore 4, 2) := by decide +kernel
theorem dX11_isOrder_32 : decode cX11_isOrder 32 = .ok (.iload 4, 2) := by decide +kernel
theorem dX11_isOrder_34 : decode cX11_isOrder 34 = .ok (.ifCond .lt 62, 3) := by decide +kernel
theorem dX11_isOrder_37 : decode cX11_isOrder 37 = .ok (.iload_n 2, 1) := by decide +kernel
theorem dX11_isOrder_38 : decode cX11_isOrder 38 = .ok (.bipush 10, 2) := by decide +kernel
theorem dX11_isOrder_40 : decode cX11_isOrder 40 = .ok (.irem, 1) := by decide +kernel
theorem dX11_isOrder_41 : decode cX11_isOrder 41 = .ok (.iconst 1, 1) := by decide +kernel
theorem dX11_isOrder_42 : decode cX11_isOrder 42 = .ok (.isub, 1) := by decide +kernel
theorem dX11_isOrder_43 : decode cX11_isOrder 43 = .ok (.istore 5, 2) := by decide +kernel
theorem dX11_isOrder_45 : decode cX11_isOrder 45 = .ok (.iload_n 2, 1) := by decide +kernel
theorem dX11_isOrder_46 : decode cX11_isOrder 46 = .ok (.ifCond .le 21, 3) := by decide +kernel
theorem dX11_isOrder_49 : decode cX11_isOrder 49 = .ok (.aload_n 0, 1) := by decide +kernel
theorem dX11_isOrder_50 : decode cX11_isOrder 50 = .ok (.iload 5, 2) := by decide +kernel
theorem dX11_isOrder_52 : decode cX11_isOrder 52 = .ok (.invokevirtual 90, 3) := by decide +kernel
theorem dX11_isOrder_55 : decode cX11_isOrder 55 = .ok (.ifCond .eq 12, 3) := by decide +kernel
theorem dX11_isOrder_58 : decode cX11_isOrder 58 = .ok (.iload_n 3, 1) := by decide +kernel
theorem dX11_isOrder_59 : decode cX11_isOrder 59 = .ok (.iload 5, 2) := by decide +kernel
theorem dX11_isOrder_61 : decode cX11_isOrder 61 = .ok (.invokestatic 114, 3) := by decide +kernel
theorem dX11_isOrder_64 : decode cX11_isOrder 64 = .ok (.ifCond .eq 5, 3) := by decide +kernel
theorem dX11_isOrder_67 : decode cX11_isOrder 67 = .ok (.iconst 0, 1) := by decide +kernel
theorem dX11_isOrder_68 : decode cX11_isOrder 68 = .ok (.ireturn, 1) := by decide +kernel
theorem dX11_isOrder_69 : decode cX11_isOrder 69 = .ok (.iload_n 3, 1) := by decide +kernel
theorem dX11_isOrder_70 : decode cX11_isOrder 70 = .ok (.iconst 1, 1) := by decide +kernel
theorem dX11_isOrder_71 : decode cX11_isOrder 71 = .ok (.iload 5, 2) := by decide +kernel
theorem dX11_isOrder_73 : decode cX11_isOrder 73 = .ok (.ishl, 1) := by decide +kernel
theorem dX11_isOrder_74 : decode cX11_isOrder 74 = .ok (.ior, 1) := by decide +kernel
theorem dX11_isOrder_75 : decode cX11_isOrder 75 = .ok (.istore_n 3, 1) := by decide +kernel
theorem dX11_isOrder_76 : decode cX11_isOrder 76 = .ok (.aload_n 0, 1) := by decide +kernel
theorem dX11_isOrder_77 : decode cX11_isOrder 77 = .ok (.getfield 25, 3) := by decide +kernel
theorem dX11_isOrder_80 : decode cX11_isOrder 80 = .ok (.iload 4, 2) := by decide +kernel
theorem dX11_isOrder_82 : decode cX11_isOrder 82 = .ok (.iload 5, 2) := by decide +kernel
theorem dX11_isOrder_84 : decode cX11_isOrder 84 = .ok (.iastore, 1) := by decide +kernel
theorem dX11_isOrder_85 : decode cX11_isOrder 85 = .ok (.iload_n 2, 1) := by decide +kernel
theorem dX11_isOrder_86 : decode cX11_isOrder 86 = .ok (.bipush 10, 2) := by decide +kernel
theorem dX11_isOrder_88 : decode cX11_isOrder 88 = .ok (.idiv, 1) := by decide +kernel
theorem dX11_isOrder_89 : decode cX11_isOrder 89 = .ok (.istore_n 2, 1) := by decide +kernel
theorem dX11_isOrder_90 : decode cX11_isOrder 90 = .ok (.iinc 4 (-1), 3) := by decide +kernel
theorem dX11_isOrder_93 : decode cX11_isOrder 93 = .ok (.goto (-61), 3) := by decide +kernel
theorem dX11_isOrder_96 : decode cX11_isOrder 96 = .ok (.iload_n 2, 1) := by decide +kernel
theorem dX11_isOrder_97 : decode cX11_isOrder 97 = .ok (.ifCond .ne 7, 3) := by decide +kernel
theorem dX11_isOrder_100 : decode cX11_isOrder 100 = .ok (.iconst 1, 1) := by decide +kernel
theorem dX11_isOrder_101 : decode cX11_isOrder 101 = .ok (.goto 4, 3) := by decide +kernel
theorem dX11_isOrder_104 : decode cX11_isOrder 104 = .ok (.iconst 0, 1) := by decide +kernel
theorem dX11_isOrder_105 : decode cX11_isOrder 105 = .ok (.ireturn, 1) := by decide +kernel
set_option maxRecDepth 20000 in
theorem ggX11_orders_X11_in : GoodIn wsX11_orders wsX11_in := goodIn_r _ [4] (by decide +kernel) (by decide +kernel)
set_option maxRecDepth 20000 in
theorem gX11_orders_X11_in : GoodIn wsX11_orders (va_wsS RX11 83 yX11_in wsX11_in) := goodIn_app (goodIn_of _ (by decide +kernel)) ggX11_orders_X11_in
set_option maxRecDepth 20000 in
theorem ggX11_orders_X11_beginsAll : GoodIn wsX11_orders wsX11_beginsAll := goodIn_r _ [8, 9, 10, 11, 12, 3, 13, 14, 15, 16, 17, 34, 35, 36, 37, 38, 39, 40, 41, 42, 43, 44, 45, 46, 47, 48, 49, 50, 51, 52, 53, 54, 55, 56, 57, 58, 59, 60, 61, 62, 63, 64, 65, 66, 67, 68, 69, 70, 71, 72] (by decide +kernel) (by decide +kernel)
set_option maxRecDepth 20000 in
theorem gX11_orders_X11_beginsAll : GoodIn wsX11_orders (wsV RX11 150 RX11 yX11_beginsAll wsX11_beginsAll) := goodIn_app (goodIn_of _ (by decide +kernel)) ggX11_orders_X11_beginsAll
set_option maxRecDepth 20000 in
theorem ggX11_orders_X11_gapsNow : GoodIn wsX11_orders wsX11_gapsNow := goodIn_r _ [21, 9, 17, 22, 23, 3, 24, 25, 26, 27, 28, 14, 29, 16, 34, 35, 36, 37, 38, 39, 40, 41, 42, 43, 44, 45, 46, 47, 48, 49, 50, 51, 52, 53, 54, 55, 56, 57, 58, 59, 60, 61, 62, 63, 64, 65, 66, 67, 68, 69, 70, 71, 72] (by decide +kernel) (by decide +kernel)
set_option maxRecDepth 20000 in
theorem gX11_orders_X11_gapsNow : GoodIn wsX11_orders (wsV RX11 153 RX11 yX11_gapsNow wsX11_gapsNow) := goodIn_app (goodIn_of _ (by decide +kernel)) ggX11_orders_X11_gapsNow
set_option maxRecDepth 20000 in
theorem ggX11_orders_X11_goesOn : GoodIn wsX11_orders wsX11_goesOn := goodIn_r _ [33, 14, 16, 34, 35, 36, 37, 38, 39, 40, 41, 42, 43, 44, 45, 46, 47, 48, 49, 50, 51, 52, 53, 54, 55, 56, 57, 58, 59, 60, 61, 62, 63, 64, 65, 66, 67, 68, 69, 70, 71, 72] (by decide +kernel) (by decide +kernel)
set_option maxRecDepth 20000 in
theorem gX11_orders_X11_goesOn : GoodIn wsX11_orders (wsV RX11 159 RX11 yX11_goesOn wsX11_goesOn) := goodIn_app (goodIn_of _ (by decide +kernel)) ggX11_orders_X11_goesOn
theorem dX11_orders_0 : decode cX11_orders 0 = .ok (.iload_n 1, 1) := by decide +kernel
theorem dX11_orders_1 : decode cX11_orders 1 = .ok (.iconst 0, 1) := by decide +kernel
theorem dX11_orders_2 : decode cX11_orders 2 = .ok (.bipush 60, 2) := by decide +kernel
theorem dX11_orders_4 : decode cX11_orders 4 = .ok (.invokestatic 83, 3) := by decide +kernel
theorem dX11_orders_7 : decode cX11_orders 7 = .ok (.ifCond .ne 6, 3) := by decide +kernel
theorem dX11_orders_10 : decode cX11_orders 10 = .ok (.bipush (-2), 2) := by decide +kernel
theorem dX11_orders_12 : decode cX11_orders 12 = .ok (.ireturn, 1) := by decide +kernel
theorem dX11_orders_13 : decode cX11_orders 13 = .ok (.iconst 0, 1) := by decide +kernel
theorem dX11_orders_14 : decode cX11_orders 14 = .ok (.istore_n 2, 1) := by decide +kernel
theorem dX11_orders_15 : decode cX11_orders 15 = .ok (.aload_n 0, 1) := by decide +kernel
theorem dX11_orders_16 : decode cX11_orders 16 = .ok (.invokevirtual 150, 3) := by decide +kernel
theorem dX11_orders_19 : decode cX11_orders 19 = .ok (.iconst 1, 1) := by decide +kernel
theorem dX11_orders_20 : decode cX11_orders 20 = .ok (.istore_n 3, 1) := by decide +kernel
theorem dX11_orders_21 : decode cX11_orders 21 = .ok (.iload_n 3, 1) := by decide +kernel
theorem dX11_orders_22 : decode cX11_orders 22 = .ok (.ifCond .eq 27, 3) := by decide +kernel
theorem dX11_orders_25 : decode cX11_orders 25 = .ok (.iload_n 2, 1) := by decide +kernel
theorem dX11_orders_26 : decode cX11_orders 26 = .ok (.aload_n 0, 1) := by decide +kernel
theorem dX11_orders_27 : decode cX11_orders 27 = .ok (.invokevirtual 153, 3) := by decide +kernel
theorem dX11_orders_30 : decode cX11_orders 30 = .ok (.iload_n 1, 1) := by decide +kernel
theorem dX11_orders_31 : decode cX11_orders 31 = .ok (.if_icmp .gt 7, 3) := by decide +kernel
theorem dX11_orders_34 : decode cX11_orders 34 = .ok (.iconst 1, 1) := by decide +kernel
theorem dX11_orders_35 : decode cX11_orders 35 = .ok (.goto 4, 3) := by decide +kernel
theorem dX11_orders_38 : decode cX11_orders 38 = .ok (.iconst 0, 1) := by decide +kernel
theorem dX11_orders_39 : decode cX11_orders 39 = .ok (.iadd, 1) := by decide +kernel
theorem dX11_orders_40 : decode cX11_orders 40 = .ok (.istore_n 2, 1) := by decide +kernel
theorem dX11_orders_41 : decode cX11_orders 41 = .ok (.aload_n 0, 1) := by decide +kernel
theorem dX11_orders_42 : decode cX11_orders 42 = .ok (.invokevirtual 159, 3) := by decide +kernel
theorem dX11_orders_45 : decode cX11_orders 45 = .ok (.istore_n 3, 1) := by decide +kernel
theorem dX11_orders_46 : decode cX11_orders 46 = .ok (.goto (-25), 3) := by decide +kernel
theorem dX11_orders_49 : decode cX11_orders 49 = .ok (.iload_n 2, 1) := by decide +kernel
theorem dX11_orders_50 : decode cX11_orders 50 = .ok (.ireturn, 1) := by decide +kernel
set_option maxRecDepth 20000 in
theorem ggX11_gapless_X11_gaplessOnes : GoodIn wsX11_gapless wsX11_gaplessOnes := goodIn_r _ [7, 1, 2, 8, 9, 10, 6, 11, 12, 13, 14, 15, 16, 17, 18, 19, 20, 21, 22, 23, 24, 25, 26, 27, 28, 29, 30, 31, 32, 33, 34, 35, 36, 37, 38, 39, 40, 44, 45, 46, 47, 48, 49, 50, 51, 52, 53, 54, 55, 56, 57, 58, 59, 60, 61, 62, 63, 64, 65, 66, 67, 68, 69, 70, 71, 72, 73, 74, 75, 76, 77, 78, 79, 80, 81, 82] (by decide +kernel) (by decide +kernel)
set_option maxRecDepth 20000 in
theorem gX11_gapless_X11_gaplessOnes : GoodIn wsX11_gapless (wsV RX11 163 RX11 yX11_gaplessOnes wsX11_gaplessOnes) := goodIn_app (goodIn_of _ (by decide +kernel)) ggX11_gapless_X11_gaplessOnes
set_option maxRecDepth 20000 in
theorem ggX11_gapless_X11_in : GoodIn wsX11_gapless wsX11_in := goodIn_r _ [43] (by decide +kernel) (by decide +kernel)
set_option maxRecDepth 20000 in
theorem gX11_gapless_X11_in : GoodIn wsX11_gapless (va_wsS RX11 83 yX11_in wsX11_in) := goodIn_app (goodIn_of _ (by decide +kernel)) ggX11_gapless_X11_in
theorem dX11_gapless_0 : decode cX11_gapless 0 = .ok (.aload_n 0, 1) := by decide +kernel
theorem dX11_gapless_1 : decode cX11_gapless 1 = .ok (.invokevirtual 163, 3) := by decide +kernel
theorem dX11_gapless_4 : decode cX11_gapless 4 = .ok (.iload_n 1, 1) := by decide +kernel
theorem dX11_gapless_5 : decode cX11_gapless 5 = .ok (.iconst 0, 1) := by decide +kernel
theorem dX11_gapless_6 : decode cX11_gapless 6 = .ok (.aload_n 0, 1) := by decide +kernel
theorem dX11_gapless_7 : decode cX11_gapless 7 = .ok (.getfield 147, 3) := by decide +kernel
theorem dX11_gapless_10 : decode cX11_gapless 10 = .ok (.iconst 1, 1) := by decide +kernel
theorem dX11_gapless_11 : decode cX11_gapless 11 = .ok (.isub, 1) := by decide +kernel
theorem dX11_gapless_12 : decode cX11_gapless 12 = .ok (.invokestatic 83, 3) := by decide +kernel
theorem dX11_gapless_15 : decode cX11_gapless 15 = .ok (.ifCond .eq 12, 3) := by decide +kernel
theorem dX11_gapless_18 : decode cX11_gapless 18 = .ok (.aload_n 0, 1) := by decide +kernel
theorem dX11_gapless_19 : decode cX11_gapless 19 = .ok (.getfield 28, 3) := by decide +kernel
theorem dX11_gapless_22 : decode cX11_gapless 22 = .ok (.iload_n 1, 1) := by decide +kernel
theorem dX11_gapless_23 : decode cX11_gapless 23 = .ok (.iaload, 1) := by decide +kernel
theorem dX11_gapless_24 : decode cX11_gapless 24 = .ok (.goto 4, 3) := by decide +kernel
theorem dX11_gapless_27 : decode cX11_gapless 27 = .ok (.iconst (-1), 1) := by decide +kernel
theorem dX11_gapless_28 : decode cX11_gapless 28 = .ok (.ireturn, 1) := by decide +kernel
set_option maxRecDepth 20000 in
theorem ggX11_fewest_X11_in : GoodIn wsX11_fewest wsX11_in := goodIn_r _ [4] (by decide +kernel) (by decide +kernel)
set_option maxRecDepth 20000 in
theorem gX11_fewest_X11_in : GoodIn wsX11_fewest (va_wsS RX11 83 yX11_in wsX11_in) := goodIn_app (goodIn_of _ (by decide +kernel)) ggX11_fewest_X11_in
set_option maxRecDepth 20000 in
theorem ggX11_fewest_X11_beginsAll : GoodIn wsX11_fewest wsX11_beginsAll := goodIn_r _ [8, 9, 10, 11, 12, 3, 13, 14, 15, 16, 17, 38, 39, 40, 41, 42, 43, 44, 45, 46, 47, 48, 49, 50, 51, 52, 53, 54, 55, 56, 57, 58, 59, 60, 61, 62, 63, 64, 65, 66, 67, 68, 69, 70, 71, 72, 73, 74, 75, 76] (by decide +kernel) (by decide +kernel)
set_option maxRecDepth 20000 in
theorem gX11_fewest_X11_beginsAll : GoodIn wsX11_fewest (wsV RX11 150 RX11 yX11_beginsAll wsX11_beginsAll) := goodIn_app (goodIn_of _ (by decide +kernel)) ggX11_fewest_X11_beginsAll
set_option maxRecDepth 20000 in
theorem ggX11_fewest_X11_gapsNow : GoodIn wsX11_fewest wsX11_gapsNow := goodIn_r _ [21, 9, 17, 22, 23, 3, 24, 25, 26, 27, 28, 14, 29, 16, 38, 39, 40, 41, 42, 43, 44, 45, 46, 47, 48, 49, 50, 51, 52, 53, 54, 55, 56, 57, 58, 59, 60, 61, 62, 63, 64, 65, 66, 67, 68, 69, 70, 71, 72, 73, 74, 75, 76] (by decide +kernel) (by decide +kernel)
set_option maxRecDepth 20000 in
theorem gX11_fewest_X11_gapsNow : GoodIn wsX11_fewest (wsV RX11 153 RX11 yX11_gapsNow wsX11_gapsNow) := goodIn_app (goodIn_of _ (by decide +kernel)) ggX11_fewest_X11_gapsNow
set_option maxRecDepth 20000 in
theorem ggX11_fewest_X11_digits : GoodIn wsX11_fewest wsX11_digits := goodIn_r _ [33, 14, 16, 38, 39, 40, 41, 42, 43, 44, 45, 46, 47, 48, 49, 50, 51, 52, 53, 54, 55, 56, 57, 58, 59, 60, 61, 62, 63, 64, 65, 66, 67, 68, 69, 70, 71, 72, 73, 74, 75, 76] (by decide +kernel) (by decide +kernel)
set_option maxRecDepth 20000 in
theorem gX11_fewest_X11_digits : GoodIn wsX11_fewest (wsV RX11 156 RX11 yX11_digits wsX11_digits) := goodIn_app (goodIn_of _ (by decide +kernel)) ggX11_fewest_X11_digits
set_option maxRecDepth 20000 in
theorem ggX11_fewest_X11_goesOn : GoodIn wsX11_fewest wsX11_goesOn := goodIn_r _ [37, 14, 16, 38, 39, 40, 41, 42, 43, 44, 45, 46, 47, 48, 49, 50, 51, 52, 53, 54, 55, 56, 57, 58, 59, 60, 61, 62, 63, 64, 65, 66, 67, 68, 69, 70, 71, 72, 73, 74, 75, 76] (by decide +kernel) (by decide +kernel)
set_option maxRecDepth 20000 in
theorem gX11_fewest_X11_goesOn : GoodIn wsX11_fewest (wsV RX11 159 RX11 yX11_goesOn wsX11_goesOn) := goodIn_app (goodIn_of _ (by decide +kernel)) ggX11_fewest_X11_goesOn
theorem dX11_fewest_0 : decode cX11_fewest 0 = .ok (.iload_n 1, 1) := by decide +kernel
theorem dX11_fewest_1 : decode cX11_fewest 1 = .ok (.iconst 0, 1) := by decide +kernel
theorem dX11_fewest_2 : decode cX11_fewest 2 = .ok (.iconst 2, 1) := by decide +kernel
theorem dX11_fewest_3 : decode cX11_fewest 3 = .ok (.invokestatic 83, 3) := by decide +kernel
theorem dX11_fewest_6 : decode cX11_fewest 6 = .ok (.ifCond .ne 6, 3) := by decide +kernel
theorem dX11_fewest_9 : decode cX11_fewest 9 = .ok (.bipush (-2), 2) := by decide +kernel
theorem dX11_fewest_11 : decode cX11_fewest 11 = .ok (.ireturn, 1) := by decide +kernel
theorem dX11_fewest_12 : decode cX11_fewest 12 = .ok (.iconst (-1), 1) := by decide +kernel
theorem dX11_fewest_13 : decode cX11_fewest 13 = .ok (.istore_n 2, 1) := by decide +kernel
theorem dX11_fewest_14 : decode cX11_fewest 14 = .ok (.iconst 0, 1) := by decide +kernel
theorem dX11_fewest_15 : decode cX11_fewest 15 = .ok (.istore_n 3, 1) := by decide +kernel
theorem dX11_fewest_16 : decode cX11_fewest 16 = .ok (.iconst 0, 1) := by decide +kernel
theorem dX11_fewest_17 : decode cX11_fewest 17 = .ok (.istore 4, 2) := by decide +kernel
theorem dX11_fewest_19 : decode cX11_fewest 19 = .ok (.aload_n 0, 1) := by decide +kernel
theorem dX11_fewest_20 : decode cX11_fewest 20 = .ok (.invokevirtual 150, 3) := by decide +kernel
theorem dX11_fewest_23 : decode cX11_fewest 23 = .ok (.iconst 1, 1) := by decide +kernel
theorem dX11_fewest_24 : decode cX11_fewest 24 = .ok (.istore 5, 2) := by decide +kernel
theorem dX11_fewest_26 : decode cX11_fewest 26 = .ok (.iload 5, 2) := by decide +kernel
theorem dX11_fewest_28 : decode cX11_fewest 28 = .ok (.ifCond .eq 54, 3) := by decide +kernel
theorem dX11_fewest_31 : decode cX11_fewest 31 = .ok (.aload_n 0, 1) := by decide +kernel
theorem dX11_fewest_32 : decode cX11_fewest 32 = .ok (.invokevirtual 153, 3) := by decide +kernel
theorem dX11_fewest_35 : decode cX11_fewest 35 = .ok (.istore 6, 2) := by decide +kernel
theorem dX11_fewest_37 : decode cX11_fewest 37 = .ok (.iload_n 2, 1) := by decide +kernel
theorem dX11_fewest_38 : decode cX11_fewest 38 = .ok (.iconst (-1), 1) := by decide +kernel
theorem dX11_fewest_39 : decode cX11_fewest 39 = .ok (.if_icmp .eq 9, 3) := by decide +kernel
theorem dX11_fewest_42 : decode cX11_fewest 42 = .ok (.iload 6, 2) := by decide +kernel
theorem dX11_fewest_44 : decode cX11_fewest 44 = .ok (.iload_n 2, 1) := by decide +kernel
theorem dX11_fewest_45 : decode cX11_fewest 45 = .ok (.if_icmp .ge 14, 3) := by decide +kernel
theorem dX11_fewest_48 : decode cX11_fewest 48 = .ok (.iload 6, 2) := by decide +kernel
theorem dX11_fewest_50 : decode cX11_fewest 50 = .ok (.istore_n 2, 1) := by decide +kernel
theorem dX11_fewest_51 : decode cX11_fewest 51 = .ok (.iconst 0, 1) := by decide +kernel
theorem dX11_fewest_52 : decode cX11_fewest 52 = .ok (.istore_n 3, 1) := by decide +kernel
theorem dX11_fewest_53 : decode cX11_fewest 53 = .ok (.aload_n 0, 1) := by decide +kernel
theorem dX11_fewest_54 : decode cX11_fewest 54 = .ok (.invokevirtual 156, 3) := by decide +kernel
theorem dX11_fewest_57 : decode cX11_fewest 57 = .ok (.istore 4, 2) := by decide +kernel
theorem dX11_fewest_59 : decode cX11_fewest 59 = .ok (.iload_n 3, 1) := by decide +kernel
theorem dX11_fewest_60 : decode cX11_fewest 60 = .ok (.iload 6, 2) := by decide +kernel
theorem dX11_fewest_62 : decode cX11_fewest 62 = .ok (.iload_n 2, 1) := by decide +kernel
theorem dX11_fewest_63 : decode cX11_fewest 63 = .ok (.if_icmp .ne 7, 3) := by decide +kernel
theorem dX11_fewest_66 : decode cX11_fewest 66 = .ok (.iconst 1, 1) := by decide +kernel
theorem dX11_fewest_67 : decode cX11_fewest 67 = .ok (.goto 4, 3) := by decide +kernel
theorem dX11_fewest_70 : decode cX11_fewest 70 = .ok (.iconst 0, 1) := by decide +kernel
theorem dX11_fewest_71 : decode cX11_fewest 71 = .ok (.iadd, 1) := by decide +kernel
theorem dX11_fewest_72 : decode cX11_fewest 72 = .ok (.istore_n 3, 1) := by decide +kernel
theorem dX11_fewest_73 : decode cX11_fewest 73 = .ok (.aload_n 0, 1) := by decide +kernel
theorem dX11_fewest_74 : decode cX11_fewest 74 = .ok (.invokevirtual 159, 3) := by decide +kernel
theorem dX11_fewest_77 : decode cX11_fewest 77 = .ok (.istore 5, 2) := by decide +kernel
theorem dX11_fewest_79 : decode cX11_fewest 79 = .ok (.goto (-53), 3) := by decide +kernel
theorem dX11_fewest_82 : decode cX11_fewest 82 = .ok (.iload_n 1, 1) := by decide +kernel
theorem dX11_fewest_83 : decode cX11_fewest 83 = .ok (.ifCond .ne 7, 3) := by decide +kernel
theorem dX11_fewest_86 : decode cX11_fewest 86 = .ok (.iload_n 2, 1) := by decide +kernel
theorem dX11_fewest_87 : decode cX11_fewest 87 = .ok (.goto 14, 3) := by decide +kernel
theorem dX11_fewest_90 : decode cX11_fewest 90 = .ok (.iload_n 1, 1) := by decide +kernel
theorem dX11_fewest_91 : decode cX11_fewest 91 = .ok (.iconst 1, 1) := by decide +kernel
theorem dX11_fewest_92 : decode cX11_fewest 92 = .ok (.if_icmp .ne 7, 3) := by decide +kernel
theorem dX11_fewest_95 : decode cX11_fewest 95 = .ok (.iload_n 3, 1) := by decide +kernel
theorem dX11_fewest_96 : decode cX11_fewest 96 = .ok (.goto 5, 3) := by decide +kernel
theorem dX11_fewest_99 : decode cX11_fewest 99 = .ok (.iload 4, 2) := by decide +kernel
theorem dX11_fewest_101 : decode cX11_fewest 101 = .ok (.ireturn, 1) := by decide +kernel
set_option maxRecDepth 20000 in
theorem ggX11_ends_X11_isGrave : GoodIn wsX11_ends wsX11_isGrave := goodIn_r _ [8, 1, 9, 10, 7, 11, 42, 43, 44, 45, 46, 47, 48, 49, 50, 51, 52, 53, 54, 55, 56, 57, 58, 59, 60, 61, 62, 63, 64, 65, 66, 67, 68, 69, 70, 71, 72, 73, 74, 75, 76, 77, 78, 79, 80] (by decide +kernel) (by decide +kernel)
set_option maxRecDepth 20000 in
theorem gX11_ends_X11_isGrave : GoodIn wsX11_ends (wsV RX11 90 RX11 yX11_isGrave wsX11_isGrave) := goodIn_app (goodIn_of _ (by decide +kernel)) ggX11_ends_X11_isGrave
set_option maxRecDepth 20000 in
theorem ggX11_ends_X11_in : GoodIn wsX11_ends wsX11_in := goodIn_r _ [11] (by decide +kernel) (by decide +kernel)
set_option maxRecDepth 20000 in
theorem gX11_ends_X11_in : GoodIn wsX11_ends (va_wsS RX11 83 yX11_in wsX11_in) := goodIn_app (goodIn_of _ (by decide +kernel)) ggX11_ends_X11_in
set_option maxRecDepth 20000 in
theorem ggX11_ends_X11_beginsAll : GoodIn wsX11_ends wsX11_beginsAll := goodIn_r _ [15, 16, 17, 18, 19, 7, 20, 3, 1, 2, 21, 42, 43, 44, 45, 46, 47, 48, 49, 50, 51, 52, 53, 54, 55, 56, 57, 58, 59, 60, 61, 62, 63, 64, 65, 66, 67, 68, 69, 70, 71, 72, 73, 74, 75, 76, 77, 78, 79, 80] (by decide +kernel) (by decide +kernel)
set_option maxRecDepth 20000 in
theorem gX11_ends_X11_beginsAll : GoodIn wsX11_ends (wsV RX11 150 RX11 yX11_beginsAll wsX11_beginsAll) := goodIn_app (goodIn_of _ (by decide +kernel)) ggX11_ends_X11_beginsAll
set_option maxRecDepth 20000 in
theorem ggX11_ends_X11_gapsNow : GoodIn wsX11_ends wsX11_gapsNow := goodIn_r _ [25, 16, 21, 26, 27, 7, 28, 29, 30, 31, 32, 3, 33, 2, 42, 43, 44, 45, 46, 47, 48, 49, 50, 51, 52, 53, 54, 55, 56, 57, 58, 59, 60, 61, 62, 63, 64, 65, 66, 67, 68, 69, 70, 71, 72, 73, 74, 75, 76, 77, 78, 79, 80] (by decide +kernel) (by decide +kernel)
set_option maxRecDepth 20000 in
theorem gX11_ends_X11_gapsNow : GoodIn wsX11_ends (wsV RX11 153 RX11 yX11_gapsNow wsX11_gapsNow) := goodIn_app (goodIn_of _ (by decide +kernel)) ggX11_ends_X11_gapsNow
set_option maxRecDepth 20000 in
theorem ggX11_ends_X11_digits : GoodIn wsX11_ends wsX11_digits := goodIn_r _ [37, 3, 2, 42, 43, 44, 45, 46, 47, 48, 49, 50, 51, 52, 53, 54, 55, 56, 57, 58, 59, 60, 61, 62, 63, 64, 65, 66, 67, 68, 69, 70, 71, 72, 73, 74, 75, 76, 77, 78, 79, 80] (by decide +kernel) (by decide +kernel)
set_option maxRecDepth 20000 in
theorem gX11_ends_X11_digits : GoodIn wsX11_ends (wsV RX11 156 RX11 yX11_digits wsX11_digits) := goodIn_app (goodIn_of _ (by decide +kernel)) ggX11_ends_X11_digits
set_option maxRecDepth 20000 in
theorem ggX11_ends_X11_goesOn : GoodIn wsX11_ends wsX11_goesOn := goodIn_r _ [41, 3, 2, 42, 43, 44, 45, 46, 47, 48, 49, 50, 51, 52, 53, 54, 55, 56, 57, 58, 59, 60, 61, 62, 63, 64, 65, 66, 67, 68, 69, 70, 71, 72, 73, 74, 75, 76, 77, 78, 79, 80] (by decide +kernel) (by decide +kernel)
set_option maxRecDepth 20000 in
theorem gX11_ends_X11_goesOn : GoodIn wsX11_ends (wsV RX11 159 RX11 yX11_goesOn wsX11_goesOn) := goodIn_app (goodIn_of _ (by decide +kernel)) ggX11_ends_X11_goesOn
theorem dX11_ends_0 : decode cX11_ends 0 = .ok (.aload_n 0, 1) := by decide +kernel
theorem dX11_ends_1 : decode cX11_ends 1 = .ok (.iload_n 1, 1) := by decide +kernel
theorem dX11_ends_2 : decode cX11_ends 2 = .ok (.invokevirtual 90, 3) := by decide +kernel
theorem dX11_ends_5 : decode cX11_ends 5 = .ok (.ifCond .eq 11, 3) := by decide +kernel
theorem dX11_ends_8 : decode cX11_ends 8 = .ok (.aload_n 0, 1) := by decide +kernel
theorem dX11_ends_9 : decode cX11_ends 9 = .ok (.iload_n 2, 1) := by decide +kernel
theorem dX11_ends_10 : decode cX11_ends 10 = .ok (.invokevirtual 90, 3) := by decide +kernel
theorem dX11_ends_13 : decode cX11_ends 13 = .ok (.ifCond .ne 5, 3) := by decide +kernel
theorem dX11_ends_16 : decode cX11_ends 16 = .ok (.iconst (-1), 1) := by decide +kernel
theorem dX11_ends_17 : decode cX11_ends 17 = .ok (.ireturn, 1) := by decide +kernel
theorem dX11_ends_18 : decode cX11_ends 18 = .ok (.iload_n 1, 1) := by decide +kernel
theorem dX11_ends_19 : decode cX11_ends 19 = .ok (.iload_n 2, 1) := by decide +kernel
theorem dX11_ends_20 : decode cX11_ends 20 = .ok (.if_icmp .ne 14, 3) := by decide +kernel
theorem dX11_ends_23 : decode cX11_ends 23 = .ok (.aload_n 0, 1) := by decide +kernel
theorem dX11_ends_24 : decode cX11_ends 24 = .ok (.getfield 80, 3) := by decide +kernel
theorem dX11_ends_27 : decode cX11_ends 27 = .ok (.iconst 1, 1) := by decide +kernel
theorem dX11_ends_28 : decode cX11_ends 28 = .ok (.if_icmp .le 6, 3) := by decide +kernel
theorem dX11_ends_31 : decode cX11_ends 31 = .ok (.bipush (-5), 2) := by decide +kernel
theorem dX11_ends_33 : decode cX11_ends 33 = .ok (.ireturn, 1) := by decide +kernel
theorem dX11_ends_34 : decode cX11_ends 34 = .ok (.iload_n 3, 1) := by decide +kernel
theorem dX11_ends_35 : decode cX11_ends 35 = .ok (.iconst 0, 1) := by decide +kernel
theorem dX11_ends_36 : decode cX11_ends 36 = .ok (.iconst 2, 1) := by decide +kernel
theorem dX11_ends_37 : decode cX11_ends 37 = .ok (.invokestatic 83, 3) := by decide +kernel
theorem dX11_ends_40 : decode cX11_ends 40 = .ok (.ifCond .ne 6, 3) := by decide +kernel
theorem dX11_ends_43 : decode cX11_ends 43 = .ok (.bipush (-2), 2) := by decide +kernel
theorem dX11_ends_45 : decode cX11_ends 45 = .ok (.ireturn, 1) := by decide +kernel
theorem dX11_ends_46 : decode cX11_ends 46 = .ok (.iconst (-1), 1) := by decide +kernel
theorem dX11_ends_47 : decode cX11_ends 47 = .ok (.istore 4, 2) := by decide +kernel
theorem dX11_ends_49 : decode cX11_ends 49 = .ok (.iconst 0, 1) := by decide +kernel
theorem dX11_ends_50 : decode cX11_ends 50 = .ok (.istore 5, 2) := by decide +kernel
theorem dX11_ends_52 : decode cX11_ends 52 = .ok (.iconst 0, 1) := by decide +kernel
theorem dX11_ends_53 : decode cX11_ends 53 = .ok (.istore 6, 2) := by decide +kernel
theorem dX11_ends_55 : decode cX11_ends 55 = .ok (.aload_n 0, 1) := by decide +kernel
theorem dX11_ends_56 : decode cX11_ends 56 = .ok (.invokevirtual 150, 3) := by decide +kernel
theorem dX11_ends_59 : decode cX11_ends 59 = .ok (.iconst 1, 1) := by decide +kernel
theorem dX11_ends_60 : decode cX11_ends 60 = .ok (.istore 7, 2) := by decide +kernel
theorem dX11_ends_62 : decode cX11_ends 62 = .ok (.iload 7, 2) := by decide +kernel
theorem dX11_ends_64 : decode cX11_ends 64 = .ok (.ifCond .eq 81, 3) := by decide +kernel
theorem dX11_ends_67 : decode cX11_ends 67 = .ok (.aload_n 0, 1) := by decide +kernel
theorem dX11_ends_68 : decode cX11_ends 68 = .ok (.getfield 25, 3) := by decide +kernel
theorem dX11_ends_71 : decode cX11_ends 71 = .ok (.iconst 0, 1) := by decide +kernel
theorem dX11_ends_72 : decode cX11_ends 72 = .ok (.iaload, 1) := by decide +kernel
theorem dX11_ends_73 : decode cX11_ends 73 = .ok (.iload_n 1, 1) := by decide +kernel
theorem dX11_ends_74 : decode cX11_ends 74 = .ok (.if_icmp .ne 62, 3) := by decide +kernel
theorem dX11_ends_77 : decode cX11_ends 77 = .ok (.aload_n 0, 1) := by decide +kernel
theorem dX11_ends_78 : decode cX11_ends 78 = .ok (.getfield 25, 3) := by decide +kernel
theorem dX11_ends_81 : decode cX11_ends 81 = .ok (.aload_n 0, 1) := by decide +kernel
theorem dX11_ends_82 : decode cX11_ends 82 = .ok (.getfield 134, 3) := by decide +kernel
theorem dX11_ends_85 : decode cX11_ends 85 = .ok (.iconst 1, 1) := by decide +kernel
theorem dX11_ends_86 : decode cX11_ends 86 = .ok (.isub, 1) := by decide +kernel
theorem dX11_ends_87 : decode cX11_ends 87 = .ok (.iaload, 1) := by decide +kernel
theorem dX11_ends_88 : decode cX11_ends 88 = .ok (.iload_n 2, 1) := by decide +kernel
theorem dX11_ends_89 : decode cX11_ends 89 = .ok (.if_icmp .ne 47, 3) := by decide +kernel
theorem dX11_ends_92 : decode cX11_ends 92 = .ok (.aload_n 0, 1) := by decide +kernel
theorem dX11_ends_93 : decode cX11_ends 93 = .ok (.invokevirtual 153, 3) := by decide +kernel
theorem dX11_ends_96 : decode cX11_ends 96 = .ok (.istore 8, 2) := by decide +kernel
theorem dX11_ends_98 : decode cX11_ends 98 = .ok (.iload 5, 2) := by decide +kernel
theorem dX11_ends_100 : decode cX11_ends 100 = .ok (.iload 8, 2) := by decide +kernel
theorem dX11_ends_102 : decode cX11_ends 102 = .ok (.ifCond .ne 7, 3) := by decide +kernel
theorem dX11_ends_105 : decode cX11_ends 105 = .ok (.iconst 1, 1) := by decide +kernel
theorem dX11_ends_106 : decode cX11_ends 106 = .ok (.goto 4, 3) := by decide +kernel
theorem dX11_ends_109 : decode cX11_ends 109 = .ok (.iconst 0, 1) := by decide +kernel
theorem dX11_ends_110 : decode cX11_ends 110 = .ok (.iadd, 1) := by decide +kernel
theorem dX11_ends_111 : decode cX11_ends 111 = .ok (.istore 5, 2) := by decide +kernel
theorem dX11_ends_113 : decode cX11_ends 113 = .ok (.iload 4, 2) := by decide +kernel
theorem dX11_ends_115 : decode cX11_ends 115 = .ok (.iconst (-1), 1) := by decide +kernel
theorem dX11_ends_116 : decode cX11_ends 116 = .ok (.if_icmp .eq 10, 3) := by decide +kernel
theorem dX11_ends_119 : decode cX11_ends 119 = .ok (.iload 8, 2) := by decide +kernel
theorem dX11_ends_121 : decode cX11_ends 121 = .ok (.iload 4, 2) := by decide +kernel
theorem dX11_ends_123 : decode cX11_ends 123 = .ok (.if_icmp .ge 13, 3) := by decide +kernel
theorem dX11_ends_126 : decode cX11_ends 126 = .ok (.iload 8, 2) := by decide +kernel
theorem dX11_ends_128 : decode cX11_ends 128 = .ok (.istore 4, 2) := by decide +kernel
theorem dX11_ends_130 : decode cX11_ends 130 = .ok (.aload_n 0, 1) := by decide +kernel
theorem dX11_ends_131 : decode cX11_ends 131 = .ok (.invokevirtual 156, 3) := by decide +kernel
theorem dX11_ends_134 : decode cX11_ends 134 = .ok (.istore 6, 2) := by decide +kernel
theorem dX11_ends_136 : decode cX11_ends 136 = .ok (.aload_n 0, 1) := by decide +kernel
theorem dX11_ends_137 : decode cX11_ends 137 = .ok (.invokevirtual 159, 3) := by decide +kernel
theorem dX11_ends_140 : decode cX11_ends 140 = .ok (.istore 7, 2) := by decide +kernel
theorem dX11_ends_142 : decode cX11_ends 142 = .ok (.goto (-80), 3) := by decide +kernel
theorem dX11_ends_145 : decode cX11_ends 145 = .ok (.iload_n 3, 1) := by decide +kernel
theorem dX11_ends_146 : decode cX11_ends 146 = .ok (.ifCond .ne 8, 3) := by decide +kernel
theorem dX11_ends_149 : decode cX11_ends 149 = .ok (.iload 5, 2) := by decide +kernel
theorem dX11_ends_151 : decode cX11_ends 151 = .ok (.goto 15, 3) := by decide +kernel
theorem dX11_ends_154 : decode cX11_ends 154 = .ok (.iload_n 3, 1) := by decide +kernel
theorem dX11_ends_155 : decode cX11_ends 155 = .ok (.iconst 1, 1) := by decide +kernel
theorem dX11_ends_156 : decode cX11_ends 156 = .ok (.if_icmp .ne 8, 3) := by decide +kernel
theorem dX11_ends_159 : decode cX11_ends 159 = .ok (.iload 4, 2) := by decide +kernel
theorem dX11_ends_161 : decode cX11_ends 161 = .ok (.goto 5, 3) := by decide +kernel
theorem dX11_ends_164 : decode cX11_ends 164 = .ok (.iload 6, 2) := by decide +kernel
theorem dX11_ends_166 : decode cX11_ends 166 = .ok (.ireturn, 1) := by decide +kernel
theorem dX11_isCluster_0 : decode cX11_isCluster 0 = .ok (.aload_n 0, 1) := by decide +kernel
theorem dX11_isCluster_1 : decode cX11_isCluster 1 = .ok (.getfield 31, 3) := by decide +kernel
theorem dX11_isCluster_4 : decode cX11_isCluster 4 = .ok (.iload_n 1, 1) := by decide +kernel
theorem dX11_isCluster_5 : decode cX11_isCluster 5 = .ok (.iaload, 1) := by decide +kernel
theorem dX11_isCluster_6 : decode cX11_isCluster 6 = .ok (.aload_n 0, 1) := by decide +kernel
theorem dX11_isCluster_7 : decode cX11_isCluster 7 = .ok (.getfield 147, 3) := by decide +kernel
theorem dX11_isCluster_10 : decode cX11_isCluster 10 = .ok (.if_icmp .ne 7, 3) := by decide +kernel
theorem dX11_isCluster_13 : decode cX11_isCluster 13 = .ok (.iconst 1, 1) := by decide +kernel
theorem dX11_isCluster_14 : decode cX11_isCluster 14 = .ok (.goto 4, 3) := by decide +kernel
theorem dX11_isCluster_17 : decode cX11_isCluster 17 = .ok (.iconst 0, 1) := by decide +kernel
theorem dX11_isCluster_18 : decode cX11_isCluster 18 = .ok (.ireturn, 1) := by decide +kernel
set_option maxRecDepth 20000 in
theorem ggX11_liesTogether_X11_beginsAll : GoodIn wsX11_liesTogether wsX11_beginsAll := goodIn_r _ [7, 8, 9, 10, 11, 6, 12, 13, 14, 15, 16, 37, 38, 39, 40, 41, 42, 43, 44, 45, 46, 47, 48, 49, 50, 51, 52, 53, 54, 55, 56, 57, 58, 59, 60, 61, 62, 63, 64, 65, 66, 67, 68, 69, 70, 71, 72, 73, 74, 75] (by decide +kernel) (by decide +kernel)
set_option maxRecDepth 20000 in
theorem gX11_liesTogether_X11_beginsAll : GoodIn wsX11_liesTogether (wsV RX11 150 RX11 yX11_beginsAll wsX11_beginsAll) := goodIn_app (goodIn_of _ (by decide +kernel)) ggX11_liesTogether_X11_beginsAll
set_option maxRecDepth 20000 in
theorem ggX11_liesTogether_X11_gapsNow : GoodIn wsX11_liesTogether wsX11_gapsNow := goodIn_r _ [20, 8, 16, 21, 22, 6, 23, 24, 25, 26, 27, 13, 28, 15, 37, 38, 39, 40, 41, 42, 43, 44, 45, 46, 47, 48, 49, 50, 51, 52, 53, 54, 55, 56, 57, 58, 59, 60, 61, 62, 63, 64, 65, 66, 67, 68, 69, 70, 71, 72, 73, 74, 75] (by decide +kernel) (by decide +kernel)
set_option maxRecDepth 20000 in
theorem gX11_liesTogether_X11_gapsNow : GoodIn wsX11_liesTogether (wsV RX11 153 RX11 yX11_gapsNow wsX11_gapsNow) := goodIn_app (goodIn_of _ (by decide +kernel)) ggX11_liesTogether_X11_gapsNow
set_option maxRecDepth 20000 in
theorem ggX11_liesTogether_X11_marks : GoodIn wsX11_liesTogether wsX11_marks := goodIn_r _ [32, 13, 15, 1, 37, 38, 39, 40, 41, 42, 43, 44, 45, 46, 47, 48, 49, 50, 51, 52, 53, 54, 55, 56, 57, 58, 59, 60, 61, 62, 63, 64, 65, 66, 67, 68, 69, 70, 71, 72, 73, 74, 75] (by decide +kernel) (by decide +kernel)
set_option maxRecDepth 20000 in
theorem gX11_liesTogether_X11_marks : GoodIn wsX11_liesTogether (wsV RX11 166 RX11 yX11_marks wsX11_marks) := goodIn_app (goodIn_of _ (by decide +kernel)) ggX11_liesTogether_X11_marks
set_option maxRecDepth 20000 in
theorem ggX11_liesTogether_X11_goesOn : GoodIn wsX11_liesTogether wsX11_goesOn := goodIn_r _ [36, 13, 15, 37, 38, 39, 40, 41, 42, 43, 44, 45, 46, 47, 48, 49, 50, 51, 52, 53, 54, 55, 56, 57, 58, 59, 60, 61, 62, 63, 64, 65, 66, 67, 68, 69, 70, 71, 72, 73, 74, 75] (by decide +kernel) (by decide +kernel)
set_option maxRecDepth 20000 in
theorem gX11_liesTogether_X11_goesOn : GoodIn wsX11_liesTogether (wsV RX11 159 RX11 yX11_goesOn wsX11_goesOn) := goodIn_app (goodIn_of _ (by decide +kernel)) ggX11_liesTogether_X11_goesOn
theorem dX11_liesTogether_0 : decode cX11_liesTogether 0 = .ok (.iconst 0, 1) := by decide +kernel
theorem dX11_liesTogether_1 : decode cX11_liesTogether 1 = .ok (.istore_n 1, 1) := by decide +kernel
theorem dX11_liesTogether_2 : decode cX11_liesTogether 2 = .ok (.iload_n 1, 1) := by decide +kernel
theorem dX11_liesTogether_3 : decode cX11_liesTogether 3 = .ok (.sipush 128, 3) := by decide +kernel
theorem dX11_liesTogether_6 : decode cX11_liesTogether 6 = .ok (.if_icmp .ge 16, 3) := by decide +kernel
theorem dX11_liesTogether_9 : decode cX11_liesTogether 9 = .ok (.aload_n 0, 1) := by decide +kernel
theorem dX11_liesTogether_10 : decode cX11_liesTogether 10 = .ok (.getfield 31, 3) := by decide +kernel
theorem dX11_liesTogether_13 : decode cX11_liesTogether 13 = .ok (.iload_n 1, 1) := by decide +kernel
theorem dX11_liesTogether_14 : decode cX11_liesTogether 14 = .ok (.iconst 0, 1) := by decide +kernel
theorem dX11_liesTogether_15 : decode cX11_liesTogether 15 = .ok (.iastore, 1) := by decide +kernel
theorem dX11_liesTogether_16 : decode cX11_liesTogether 16 = .ok (.iinc 1 1, 3) := by decide +kernel
theorem dX11_liesTogether_19 : decode cX11_liesTogether 19 = .ok (.goto (-17), 3) := by decide +kernel
theorem dX11_liesTogether_22 : decode cX11_liesTogether 22 = .ok (.aload_n 0, 1) := by decide +kernel
theorem dX11_liesTogether_23 : decode cX11_liesTogether 23 = .ok (.iconst 0, 1) := by decide +kernel
theorem dX11_liesTogether_24 : decode cX11_liesTogether 24 = .ok (.putfield 147, 3) := by decide +kernel
theorem dX11_liesTogether_27 : decode cX11_liesTogether 27 = .ok (.aload_n 0, 1) := by decide +kernel
theorem dX11_liesTogether_28 : decode cX11_liesTogether 28 = .ok (.invokevirtual 150, 3) := by decide +kernel
theorem dX11_liesTogether_31 : decode cX11_liesTogether 31 = .ok (.iconst 1, 1) := by decide +kernel
theorem dX11_liesTogether_32 : decode cX11_liesTogether 32 = .ok (.istore_n 1, 1) := by decide +kernel
theorem dX11_liesTogether_33 : decode cX11_liesTogether 33 = .ok (.iload_n 1, 1) := by decide +kernel
theorem dX11_liesTogether_34 : decode cX11_liesTogether 34 = .ok (.ifCond .eq 32, 3) := by decide +kernel
theorem dX11_liesTogether_37 : decode cX11_liesTogether 37 = .ok (.aload_n 0, 1) := by decide +kernel
theorem dX11_liesTogether_38 : decode cX11_liesTogether 38 = .ok (.invokevirtual 153, 3) := by decide +kernel
theorem dX11_liesTogether_41 : decode cX11_liesTogether 41 = .ok (.ifCond .ne 17, 3) := by decide +kernel
theorem dX11_liesTogether_44 : decode cX11_liesTogether 44 = .ok (.aload_n 0, 1) := by decide +kernel
theorem dX11_liesTogether_45 : decode cX11_liesTogether 45 = .ok (.dup, 1) := by decide +kernel
theorem dX11_liesTogether_46 : decode cX11_liesTogether 46 = .ok (.getfield 147, 3) := by decide +kernel
theorem dX11_liesTogether_49 : decode cX11_liesTogether 49 = .ok (.iconst 1, 1) := by decide +kernel
theorem dX11_liesTogether_50 : decode cX11_liesTogether 50 = .ok (.iadd, 1) := by decide +kernel
theorem dX11_liesTogether_51 : decode cX11_liesTogether 51 = .ok (.putfield 147, 3) := by decide +kernel
theorem dX11_liesTogether_54 : decode cX11_liesTogether 54 = .ok (.aload_n 0, 1) := by decide +kernel
theorem dX11_liesTogether_55 : decode cX11_liesTogether 55 = .ok (.invokevirtual 166, 3) := by decide +kernel
theorem dX11_liesTogether_58 : decode cX11_liesTogether 58 = .ok (.aload_n 0, 1) := by decide +kernel
theorem dX11_liesTogether_59 : decode cX11_liesTogether 59 = .ok (.invokevirtual 159, 3) := by decide +kernel
theorem dX11_liesTogether_62 : decode cX11_liesTogether 62 = .ok (.istore_n 1, 1) := by decide +kernel
theorem dX11_liesTogether_63 : decode cX11_liesTogether 63 = .ok (.goto (-30), 3) := by decide +kernel
theorem dX11_liesTogether_66 : decode cX11_liesTogether 66 = .ok (.return_, 1) := by decide +kernel
theorem dX11_marks_0 : decode cX11_marks 0 = .ok (.iconst 0, 1) := by decide +kernel
theorem dX11_marks_1 : decode cX11_marks 1 = .ok (.istore_n 1, 1) := by decide +kernel
theorem dX11_marks_2 : decode cX11_marks 2 = .ok (.iload_n 1, 1) := by decide +kernel
theorem dX11_marks_3 : decode cX11_marks 3 = .ok (.aload_n 0, 1) := by decide +kernel
theorem dX11_marks_4 : decode cX11_marks 4 = .ok (.getfield 134, 3) := by decide +kernel
theorem dX11_marks_7 : decode cX11_marks 7 = .ok (.if_icmp .ge 48, 3) := by decide +kernel
theorem dX11_marks_10 : decode cX11_marks 10 = .ok (.iconst 0, 1) := by decide +kernel
theorem dX11_marks_11 : decode cX11_marks 11 = .ok (.istore_n 2, 1) := by decide +kernel
theorem dX11_marks_12 : decode cX11_marks 12 = .ok (.iload_n 1, 1) := by decide +kernel
theorem dX11_marks_13 : decode cX11_marks 13 = .ok (.istore_n 3, 1) := by decide +kernel
theorem dX11_marks_14 : decode cX11_marks 14 = .ok (.iload_n 3, 1) := by decide +kernel
theorem dX11_marks_15 : decode cX11_marks 15 = .ok (.aload_n 0, 1) := by decide +kernel
theorem dX11_marks_16 : decode cX11_marks 16 = .ok (.getfield 134, 3) := by decide +kernel
theorem dX11_marks_19 : decode cX11_marks 19 = .ok (.if_icmp .ge 30, 3) := by decide +kernel
theorem dX11_marks_22 : decode cX11_marks 22 = .ok (.iload_n 2, 1) := by decide +kernel
theorem dX11_marks_23 : decode cX11_marks 23 = .ok (.iconst 1, 1) := by decide +kernel
theorem dX11_marks_24 : decode cX11_marks 24 = .ok (.aload_n 0, 1) := by decide +kernel
theorem dX11_marks_25 : decode cX11_marks 25 = .ok (.getfield 25, 3) := by decide +kernel
theorem dX11_marks_28 : decode cX11_marks 28 = .ok (.iload_n 3, 1) := by decide +kernel
theorem dX11_marks_29 : decode cX11_marks 29 = .ok (.iaload, 1) := by decide +kernel
theorem dX11_marks_30 : decode cX11_marks 30 = .ok (.ishl, 1) := by decide +kernel
theorem dX11_marks_31 : decode cX11_marks 31 = .ok (.ior, 1) := by decide +kernel
theorem dX11_marks_32 : decode cX11_marks 32 = .ok (.istore_n 2, 1) := by decide +kernel
theorem dX11_marks_33 : decode cX11_marks 33 = .ok (.aload_n 0, 1) := by decide +kernel
theorem dX11_marks_34 : decode cX11_marks 34 = .ok (.getfield 31, 3) := by decide +kernel
theorem dX11_marks_37 : decode cX11_marks 37 = .ok (.iload_n 2, 1) := by decide +kernel
theorem dX11_marks_38 : decode cX11_marks 38 = .ok (.dup2, 1) := by decide +kernel
theorem dX11_marks_39 : decode cX11_marks 39 = .ok (.iaload, 1) := by decide +kernel
theorem dX11_marks_40 : decode cX11_marks 40 = .ok (.iconst 1, 1) := by decide +kernel
theorem dX11_marks_41 : decode cX11_marks 41 = .ok (.iadd, 1) := by decide +kernel
theorem dX11_marks_42 : decode cX11_marks 42 = .ok (.iastore, 1) := by decide +kernel
theorem dX11_marks_43 : decode cX11_marks 43 = .ok (.iinc 3 1, 3) := by decide +kernel
theorem dX11_marks_46 : decode cX11_marks 46 = .ok (.goto (-32), 3) := by decide +kernel
theorem dX11_marks_49 : decode cX11_marks 49 = .ok (.iinc 1 1, 3) := by decide +kernel
theorem dX11_marks_52 : decode cX11_marks 52 = .ok (.goto (-50), 3) := by decide +kernel
theorem dX11_marks_55 : decode cX11_marks 55 = .ok (.return_, 1) := by decide +kernel
theorem dX11_all_0 : decode cX11_all 0 = .ok (.iconst 1, 1) := by decide +kernel
theorem dX11_all_1 : decode cX11_all 1 = .ok (.aload_n 0, 1) := by decide +kernel
theorem dX11_all_2 : decode cX11_all 2 = .ok (.getfield 80, 3) := by decide +kernel
theorem dX11_all_5 : decode cX11_all 5 = .ok (.ishl, 1) := by decide +kernel
theorem dX11_all_6 : decode cX11_all 6 = .ok (.iconst 1, 1) := by decide +kernel
theorem dX11_all_7 : decode cX11_all 7 = .ok (.isub, 1) := by decide +kernel
theorem dX11_all_8 : decode cX11_all 8 = .ok (.ireturn, 1) := by decide +kernel
set_option maxRecDepth 20000 in
theorem ggX11_isKnot_X11_isCluster : GoodIn wsX11_isKnot wsX11_isCluster := goodIn_r _ [5, 6, 7, 13, 14, 15, 16, 17, 18, 19, 20, 21, 22, 23, 24, 25, 26, 27, 28, 29, 30, 31, 32, 33, 34, 35, 36, 37, 38, 39, 40, 41, 42, 43, 44, 45, 46, 47, 48, 49, 50, 51] (by decide +kernel) (by decide +kernel)
set_option maxRecDepth 20000 in
theorem gX11_isKnot_X11_isCluster : GoodIn wsX11_isKnot (wsV RX11 169 RX11 yX11_isCluster wsX11_isCluster) := goodIn_app (goodIn_of _ (by decide +kernel)) ggX11_isKnot_X11_isCluster
set_option maxRecDepth 20000 in
theorem ggX11_isKnot_X11_all : GoodIn wsX11_isKnot wsX11_all := goodIn_r _ [11, 12, 13, 14, 15, 16, 17, 18, 19, 20, 21, 22, 23, 24, 25, 26, 27, 28, 29, 30, 31, 32, 33, 34, 35, 36, 37, 38, 39, 40, 41, 42, 43, 44, 45, 46, 47, 48, 49, 50, 51] (by decide +kernel) (by decide +kernel)
set_option maxRecDepth 20000 in
theorem gX11_isKnot_X11_all : GoodIn wsX11_isKnot (wsV RX11 172 RX11 yX11_all wsX11_all) := goodIn_app (goodIn_of _ (by decide +kernel)) ggX11_isKnot_X11_all
theorem dX11_isKnot_0 : decode cX11_isKnot 0 = .ok (.aload_n 0, 1) := by decide +kernel
theorem dX11_isKnot_1 : decode cX11_isKnot 1 = .ok (.iload_n 1, 1) := by decide +kernel
theorem dX11_isKnot_2 : decode cX11_isKnot 2 = .ok (.invokevirtual 169, 3) := by decide +kernel
theorem dX11_isKnot_5 : decode cX11_isKnot 5 = .ok (.ifCond .ne 5, 3) := by decide +kernel
theorem dX11_isKnot_8 : decode cX11_isKnot 8 = .ok (.iconst 0, 1) := by decide +kernel
theorem dX11_isKnot_9 : decode cX11_isKnot 9 = .ok (.ireturn, 1) := by decide +kernel
theorem dX11_isKnot_10 : decode cX11_isKnot 10 = .ok (.iconst 1, 1) := by decide +kernel
theorem dX11_isKnot_11 : decode cX11_isKnot 11 = .ok (.istore_n 2, 1) := by decide +kernel
theorem dX11_isKnot_12 : decode cX11_isKnot 12 = .ok (.iload_n 2, 1) := by decide +kernel
theorem dX11_isKnot_13 : decode cX11_isKnot 13 = .ok (.aload_n 0, 1) := by decide +kernel
theorem dX11_isKnot_14 : decode cX11_isKnot 14 = .ok (.invokevirtual 172, 3) := by decide +kernel
theorem dX11_isKnot_17 : decode cX11_isKnot 17 = .ok (.if_icmp .gt 41, 3) := by decide +kernel
theorem dX11_isKnot_20 : decode cX11_isKnot 20 = .ok (.aload_n 0, 1) := by decide +kernel
theorem dX11_isKnot_21 : decode cX11_isKnot 21 = .ok (.iload_n 2, 1) := by decide +kernel
theorem dX11_isKnot_22 : decode cX11_isKnot 22 = .ok (.invokevirtual 169, 3) := by decide +kernel
theorem dX11_isKnot_25 : decode cX11_isKnot 25 = .ok (.ifCond .eq 27, 3) := by decide +kernel
theorem dX11_isKnot_28 : decode cX11_isKnot 28 = .ok (.iload_n 2, 1) := by decide +kernel
theorem dX11_isKnot_29 : decode cX11_isKnot 29 = .ok (.iload_n 1, 1) := by decide +kernel
theorem dX11_isKnot_30 : decode cX11_isKnot 30 = .ok (.iand, 1) := by decide +kernel
theorem dX11_isKnot_31 : decode cX11_isKnot 31 = .ok (.ifCond .eq 21, 3) := by decide +kernel
theorem dX11_isKnot_34 : decode cX11_isKnot 34 = .ok (.iload_n 1, 1) := by decide +kernel
theorem dX11_isKnot_35 : decode cX11_isKnot 35 = .ok (.iload_n 2, 1) := by decide +kernel
theorem dX11_isKnot_36 : decode cX11_isKnot 36 = .ok (.iconst (-1), 1) := by decide +kernel
theorem dX11_isKnot_37 : decode cX11_isKnot 37 = .ok (.ixor, 1) := by decide +kernel
theorem dX11_isKnot_38 : decode cX11_isKnot 38 = .ok (.iand, 1) := by decide +kernel
theorem dX11_isKnot_39 : decode cX11_isKnot 39 = .ok (.ifCond .eq 13, 3) := by decide +kernel
theorem dX11_isKnot_42 : decode cX11_isKnot 42 = .ok (.iload_n 2, 1) := by decide +kernel
theorem dX11_isKnot_43 : decode cX11_isKnot 43 = .ok (.iload_n 1, 1) := by decide +kernel
theorem dX11_isKnot_44 : decode cX11_isKnot 44 = .ok (.iconst (-1), 1) := by decide +kernel
theorem dX11_isKnot_45 : decode cX11_isKnot 45 = .ok (.ixor, 1) := by decide +kernel
theorem dX11_isKnot_46 : decode cX11_isKnot 46 = .ok (.iand, 1) := by decide +kernel
theorem dX11_isKnot_47 : decode cX11_isKnot 47 = .ok (.ifCond .eq 5, 3) := by decide +kernel
theorem dX11_isKnot_50 : decode cX11_isKnot 50 = .ok (.iconst 0, 1) := by decide +kernel
theorem dX11_isKnot_51 : decode cX11_isKnot 51 = .ok (.ireturn, 1) := by decide +kernel
theorem dX11_isKnot_52 : decode cX11_isKnot 52 = .ok (.iinc 2 1, 3) := by decide +kernel
theorem dX11_isKnot_55 : decode cX11_isKnot 55 = .ok (.goto (-43), 3) := by decide +kernel
theorem dX11_isKnot_58 : decode cX11_isKnot 58 = .ok (.iconst 1, 1) := by decide +kernel
theorem dX11_isKnot_59 : decode cX11_isKnot 59 = .ok (.ireturn, 1) := by decide +kernel
set_option maxRecDepth 20000 in
theorem ggX11_tellsKnots_X11_liesTogether : GoodIn wsX11_tellsKnots wsX11_liesTogether := goodIn_r _ [9, 10, 2, 11, 12, 13, 8, 14, 15, 16, 17, 18, 19, 20, 3, 21, 22, 23, 24, 25, 26, 27, 28, 29, 30, 31, 32, 33, 34, 35, 36, 37, 38, 39, 40, 41, 42, 58, 59, 60, 61, 62, 63, 64, 65, 66, 67, 68, 69, 70, 71, 72, 73, 74, 75, 76, 77, 78, 79, 80, 81, 82, 83, 84, 85, 86, 87, 88, 89, 90, 91, 92, 93, 94, 95, 96] (by decide +kernel) (by decide +kernel)
set_option maxRecDepth 20000 in
theorem gX11_tellsKnots_X11_liesTogether : GoodIn wsX11_tellsKnots (wsV RX11 175 RX11 yX11_liesTogether wsX11_liesTogether) := goodIn_app (goodIn_of _ (by decide +kernel)) ggX11_tellsKnots_X11_liesTogether
set_option maxRecDepth 20000 in
theorem ggX11_tellsKnots_X11_all : GoodIn wsX11_tellsKnots wsX11_all := goodIn_r _ [46, 3, 58, 59, 60, 61, 62, 63, 64, 65, 66, 67, 68, 69, 70, 71, 72, 73, 74, 75, 76, 77, 78, 79, 80, 81, 82, 83, 84, 85, 86, 87, 88, 89, 90, 91, 92, 93, 94, 95, 96] (by decide +kernel) (by decide +kernel)
set_option maxRecDepth 20000 in
theorem gX11_tellsKnots_X11_all : GoodIn wsX11_tellsKnots (wsV RX11 172 RX11 yX11_all wsX11_all) := goodIn_app (goodIn_of _ (by decide +kernel)) ggX11_tellsKnots_X11_all
set_option maxRecDepth 20000 in
theorem ggX11_tellsKnots_X11_bits : GoodIn wsX11_tellsKnots wsX11_bits := goodIn_r _ [49] (by decide +kernel) (by decide +kernel)
set_option maxRecDepth 20000 in
theorem gX11_tellsKnots_X11_bits : GoodIn wsX11_tellsKnots (va_wsS RX11 181 yX11_bits wsX11_bits) := goodIn_app (goodIn_of _ (by decide +kernel)) ggX11_tellsKnots_X11_bits
set_option maxRecDepth 20000 in
theorem ggX11_tellsKnots_X11_isKnot : GoodIn wsX11_tellsKnots wsX11_isKnot := goodIn_r _ [53, 54, 55, 56, 8, 57, 10, 2, 43, 44, 45, 46, 3, 58, 59, 60, 61, 62, 63, 64, 65, 66, 67, 68, 69, 70, 71, 72, 73, 74, 75, 76, 77, 78, 79, 80, 81, 82, 83, 84, 85, 86, 87, 88, 89, 90, 91, 92, 93, 94, 95, 96] (by decide +kernel) (by decide +kernel)
set_option maxRecDepth 20000 in
theorem gX11_tellsKnots_X11_isKnot : GoodIn wsX11_tellsKnots (wsV RX11 184 RX11 yX11_isKnot wsX11_isKnot) := goodIn_app (goodIn_of _ (by decide +kernel)) ggX11_tellsKnots_X11_isKnot
theorem dX11_tellsKnots_0 : decode cX11_tellsKnots 0 = .ok (.aload_n 0, 1) := by decide +kernel
theorem dX11_tellsKnots_1 : decode cX11_tellsKnots 1 = .ok (.invokevirtual 175, 3) := by decide +kernel
theorem dX11_tellsKnots_4 : decode cX11_tellsKnots 4 = .ok (.aload_n 0, 1) := by decide +kernel
theorem dX11_tellsKnots_5 : decode cX11_tellsKnots 5 = .ok (.iconst 0, 1) := by decide +kernel
theorem dX11_tellsKnots_6 : decode cX11_tellsKnots 6 = .ok (.putfield 178, 3) := by decide +kernel
theorem dX11_tellsKnots_9 : decode cX11_tellsKnots 9 = .ok (.aload_n 0, 1) := by decide +kernel
theorem dX11_tellsKnots_10 : decode cX11_tellsKnots 10 = .ok (.getfield 147, 3) := by decide +kernel
theorem dX11_tellsKnots_13 : decode cX11_tellsKnots 13 = .ok (.ifCond .ne 5, 3) := by decide +kernel
theorem dX11_tellsKnots_16 : decode cX11_tellsKnots 16 = .ok (.iconst 0, 1) := by decide +kernel
theorem dX11_tellsKnots_17 : decode cX11_tellsKnots 17 = .ok (.ireturn, 1) := by decide +kernel
theorem dX11_tellsKnots_18 : decode cX11_tellsKnots 18 = .ok (.iconst 1, 1) := by decide +kernel
theorem dX11_tellsKnots_19 : decode cX11_tellsKnots 19 = .ok (.istore_n 1, 1) := by decide +kernel
theorem dX11_tellsKnots_20 : decode cX11_tellsKnots 20 = .ok (.iload_n 1, 1) := by decide +kernel
theorem dX11_tellsKnots_21 : decode cX11_tellsKnots 21 = .ok (.aload_n 0, 1) := by decide +kernel
theorem dX11_tellsKnots_22 : decode cX11_tellsKnots 22 = .ok (.getfield 80, 3) := by decide +kernel
theorem dX11_tellsKnots_25 : decode cX11_tellsKnots 25 = .ok (.if_icmp .gt 64, 3) := by decide +kernel
theorem dX11_tellsKnots_28 : decode cX11_tellsKnots 28 = .ok (.iconst 1, 1) := by decide +kernel
theorem dX11_tellsKnots_29 : decode cX11_tellsKnots 29 = .ok (.istore_n 2, 1) := by decide +kernel
theorem dX11_tellsKnots_30 : decode cX11_tellsKnots 30 = .ok (.iload_n 2, 1) := by decide +kernel
theorem dX11_tellsKnots_31 : decode cX11_tellsKnots 31 = .ok (.aload_n 0, 1) := by decide +kernel
theorem dX11_tellsKnots_32 : decode cX11_tellsKnots 32 = .ok (.invokevirtual 172, 3) := by decide +kernel
theorem dX11_tellsKnots_35 : decode cX11_tellsKnots 35 = .ok (.if_icmp .gt 48, 3) := by decide +kernel
theorem dX11_tellsKnots_38 : decode cX11_tellsKnots 38 = .ok (.iload_n 2, 1) := by decide +kernel
theorem dX11_tellsKnots_39 : decode cX11_tellsKnots 39 = .ok (.invokestatic 181, 3) := by decide +kernel
theorem dX11_tellsKnots_42 : decode cX11_tellsKnots 42 = .ok (.iload_n 1, 1) := by decide +kernel
theorem dX11_tellsKnots_43 : decode cX11_tellsKnots 43 = .ok (.if_icmp .ne 34, 3) := by decide +kernel
theorem dX11_tellsKnots_46 : decode cX11_tellsKnots 46 = .ok (.aload_n 0, 1) := by decide +kernel
theorem dX11_tellsKnots_47 : decode cX11_tellsKnots 47 = .ok (.iload_n 2, 1) := by decide +kernel
theorem dX11_tellsKnots_48 : decode cX11_tellsKnots 48 = .ok (.invokevirtual 184, 3) := by decide +kernel
theorem dX11_tellsKnots_51 : decode cX11_tellsKnots 51 = .ok (.ifCond .ne 6, 3) := by decide +kernel
theorem dX11_tellsKnots_54 : decode cX11_tellsKnots 54 = .ok (.goto 23, 3) := by decide +kernel
theorem dX11_tellsKnots_57 : decode cX11_tellsKnots 57 = .ok (.aload_n 0, 1) := by decide +kernel
theorem dX11_tellsKnots_58 : decode cX11_tellsKnots 58 = .ok (.getfield 34, 3) := by decide +kernel
theorem dX11_tellsKnots_61 : decode cX11_tellsKnots 61 = .ok (.aload_n 0, 1) := by decide +kernel
theorem dX11_tellsKnots_62 : decode cX11_tellsKnots 62 = .ok (.getfield 178, 3) := by decide +kernel
theorem dX11_tellsKnots_65 : decode cX11_tellsKnots 65 = .ok (.iload_n 2, 1) := by decide +kernel
theorem dX11_tellsKnots_66 : decode cX11_tellsKnots 66 = .ok (.iastore, 1) := by decide +kernel
theorem dX11_tellsKnots_67 : decode cX11_tellsKnots 67 = .ok (.aload_n 0, 1) := by decide +kernel
theorem dX11_tellsKnots_68 : decode cX11_tellsKnots 68 = .ok (.dup, 1) := by decide +kernel
theorem dX11_tellsKnots_69 : decode cX11_tellsKnots 69 = .ok (.getfield 178, 3) := by decide +kernel
theorem dX11_tellsKnots_72 : decode cX11_tellsKnots 72 = .ok (.iconst 1, 1) := by decide +kernel
theorem dX11_tellsKnots_73 : decode cX11_tellsKnots 73 = .ok (.iadd, 1) := by decide +kernel
theorem dX11_tellsKnots_74 : decode cX11_tellsKnots 74 = .ok (.putfield 178, 3) := by decide +kernel
theorem dX11_tellsKnots_77 : decode cX11_tellsKnots 77 = .ok (.iinc 2 1, 3) := by decide +kernel
theorem dX11_tellsKnots_80 : decode cX11_tellsKnots 80 = .ok (.goto (-50), 3) := by decide +kernel
theorem dX11_tellsKnots_83 : decode cX11_tellsKnots 83 = .ok (.iinc 1 1, 3) := by decide +kernel
theorem dX11_tellsKnots_86 : decode cX11_tellsKnots 86 = .ok (.goto (-66), 3) := by decide +kernel
theorem dX11_tellsKnots_89 : decode cX11_tellsKnots 89 = .ok (.iconst 1, 1) := by decide +kernel
theorem dX11_tellsKnots_90 : decode cX11_tellsKnots 90 = .ok (.ireturn, 1) := by decide +kernel
theorem dX11_above_0 : decode cX11_above 0 = .ok (.iload_n 1, 1) := by decide +kernel
theorem dX11_above_1 : decode cX11_above 1 = .ok (.iconst 1, 1) := by decide +kernel
theorem dX11_above_2 : decode cX11_above 2 = .ok (.iadd, 1) := by decide +kernel
theorem dX11_above_3 : decode cX11_above 3 = .ok (.istore_n 2, 1) := by decide +kernel
theorem dX11_above_4 : decode cX11_above 4 = .ok (.iload_n 2, 1) := by decide +kernel
theorem dX11_above_5 : decode cX11_above 5 = .ok (.aload_n 0, 1) := by decide +kernel
theorem dX11_above_6 : decode cX11_above 6 = .ok (.getfield 178, 3) := by decide +kernel
theorem dX11_above_9 : decode cX11_above 9 = .ok (.if_icmp .ge 44, 3) := by decide +kernel
theorem dX11_above_12 : decode cX11_above 12 = .ok (.aload_n 0, 1) := by decide +kernel
theorem dX11_above_13 : decode cX11_above 13 = .ok (.getfield 34, 3) := by decide +kernel
theorem dX11_above_16 : decode cX11_above 16 = .ok (.iload_n 2, 1) := by decide +kernel
theorem dX11_above_17 : decode cX11_above 17 = .ok (.iaload, 1) := by decide +kernel
theorem dX11_above_18 : decode cX11_above 18 = .ok (.aload_n 0, 1) := by decide +kernel
theorem dX11_above_19 : decode cX11_above 19 = .ok (.getfield 34, 3) := by decide +kernel
theorem dX11_above_22 : decode cX11_above 22 = .ok (.iload_n 1, 1) := by decide +kernel
theorem dX11_above_23 : decode cX11_above 23 = .ok (.iaload, 1) := by decide +kernel
theorem dX11_above_24 : decode cX11_above 24 = .ok (.if_icmp .eq 23, 3) := by decide +kernel
theorem dX11_above_27 : decode cX11_above 27 = .ok (.aload_n 0, 1) := by decide +kernel
theorem dX11_above_28 : decode cX11_above 28 = .ok (.getfield 34, 3) := by decide +kernel
theorem dX11_above_31 : decode cX11_above 31 = .ok (.iload_n 1, 1) := by decide +kernel
theorem dX11_above_32 : decode cX11_above 32 = .ok (.iaload, 1) := by decide +kernel
theorem dX11_above_33 : decode cX11_above 33 = .ok (.aload_n 0, 1) := by decide +kernel
theorem dX11_above_34 : decode cX11_above 34 = .ok (.getfield 34, 3) := by decide +kernel
theorem dX11_above_37 : decode cX11_above 37 = .ok (.iload_n 2, 1) := by decide +kernel
theorem dX11_above_38 : decode cX11_above 38 = .ok (.iaload, 1) := by decide +kernel
theorem dX11_above_39 : decode cX11_above 39 = .ok (.iconst (-1), 1) := by decide +kernel
theorem dX11_above_40 : decode cX11_above 40 = .ok (.ixor, 1) := by decide +kernel
theorem dX11_above_41 : decode cX11_above 41 = .ok (.iand, 1) := by decide +kernel
theorem dX11_above_42 : decode cX11_above 42 = .ok (.ifCond .ne 5, 3) := by decide +kernel
theorem dX11_above_45 : decode cX11_above 45 = .ok (.iload_n 2, 1) := by decide +kernel
theorem dX11_above_46 : decode cX11_above 46 = .ok (.ireturn, 1) := by decide +kernel
theorem dX11_above_47 : decode cX11_above 47 = .ok (.iinc 2 1, 3) := by decide +kernel
theorem dX11_above_50 : decode cX11_above 50 = .ok (.goto (-46), 3) := by decide +kernel
theorem dX11_above_53 : decode cX11_above 53 = .ok (.bipush (-5), 2) := by decide +kernel
theorem dX11_above_55 : decode cX11_above 55 = .ok (.ireturn, 1) := by decide +kernel
set_option maxRecDepth 20000 in
theorem ggX11_childrenOf_X11_above : GoodIn wsX11_childrenOf wsX11_above := goodIn_r _ [5, 6, 7, 8, 9, 10, 11, 12, 13, 14, 15, 16, 17, 18, 19, 20, 21, 22, 23, 24, 25, 26, 27, 28, 29, 30, 31, 32, 33, 34, 35, 36, 37, 38, 39, 40, 41, 42, 43, 44, 45, 46] (by decide +kernel) (by decide +kernel)
set_option maxRecDepth 20000 in
theorem gX11_childrenOf_X11_above : GoodIn wsX11_childrenOf (wsV RX11 187 RX11 yX11_above wsX11_above) := goodIn_app (goodIn_of _ (by decide +kernel)) ggX11_childrenOf_X11_above
theorem dX11_childrenOf_0 : decode cX11_childrenOf 0 = .ok (.iconst 0, 1) := by decide +kernel
theorem dX11_childrenOf_1 : decode cX11_childrenOf 1 = .ok (.istore_n 2, 1) := by decide +kernel
theorem dX11_childrenOf_2 : decode cX11_childrenOf 2 = .ok (.iconst 0, 1) := by decide +kernel
theorem dX11_childrenOf_3 : decode cX11_childrenOf 3 = .ok (.istore_n 3, 1) := by decide +kernel
theorem dX11_childrenOf_4 : decode cX11_childrenOf 4 = .ok (.iload_n 3, 1) := by decide +kernel
theorem dX11_childrenOf_5 : decode cX11_childrenOf 5 = .ok (.iload_n 1, 1) := by decide +kernel
theorem dX11_childrenOf_6 : decode cX11_childrenOf 6 = .ok (.if_icmp .ge 26, 3) := by decide +kernel
theorem dX11_childrenOf_9 : decode cX11_childrenOf 9 = .ok (.iload_n 2, 1) := by decide +kernel
theorem dX11_childrenOf_10 : decode cX11_childrenOf 10 = .ok (.aload_n 0, 1) := by decide +kernel
theorem dX11_childrenOf_11 : decode cX11_childrenOf 11 = .ok (.iload_n 3, 1) := by decide +kernel
theorem dX11_childrenOf_12 : decode cX11_childrenOf 12 = .ok (.invokevirtual 187, 3) := by decide +kernel
theorem dX11_childrenOf_15 : decode cX11_childrenOf 15 = .ok (.iload_n 1, 1) := by decide +kernel
theorem dX11_childrenOf_16 : decode cX11_childrenOf 16 = .ok (.if_icmp .ne 7, 3) := by decide +kernel
theorem dX11_childrenOf_19 : decode cX11_childrenOf 19 = .ok (.iconst 1, 1) := by decide +kernel
theorem dX11_childrenOf_20 : decode cX11_childrenOf 20 = .ok (.goto 4, 3) := by decide +kernel
theorem dX11_childrenOf_23 : decode cX11_childrenOf 23 = .ok (.iconst 0, 1) := by decide +kernel
theorem dX11_childrenOf_24 : decode cX11_childrenOf 24 = .ok (.iadd, 1) := by decide +kernel
theorem dX11_childrenOf_25 : decode cX11_childrenOf 25 = .ok (.istore_n 2, 1) := by decide +kernel
theorem dX11_childrenOf_26 : decode cX11_childrenOf 26 = .ok (.iinc 3 1, 3) := by decide +kernel
theorem dX11_childrenOf_29 : decode cX11_childrenOf 29 = .ok (.goto (-25), 3) := by decide +kernel
theorem dX11_childrenOf_32 : decode cX11_childrenOf 32 = .ok (.iload_n 2, 1) := by decide +kernel
theorem dX11_childrenOf_33 : decode cX11_childrenOf 33 = .ok (.ireturn, 1) := by decide +kernel
set_option maxRecDepth 20000 in
theorem ggX11_sortOf_X11_childrenOf : GoodIn wsX11_sortOf wsX11_childrenOf := goodIn_r _ [6, 7, 8, 9, 5, 10, 11, 1, 18, 19, 20, 21, 22, 23, 24, 25, 26, 27, 28, 29, 30, 31, 32, 33, 34, 35, 36, 37, 38, 39, 40, 41, 42, 43, 44, 45, 46, 47, 48, 49, 50, 51, 52, 53, 54, 55, 56] (by decide +kernel) (by decide +kernel)
set_option maxRecDepth 20000 in
theorem gX11_sortOf_X11_childrenOf : GoodIn wsX11_sortOf (wsV RX11 190 RX11 yX11_childrenOf wsX11_childrenOf) := goodIn_app (goodIn_of _ (by decide +kernel)) ggX11_sortOf_X11_childrenOf
set_option maxRecDepth 20000 in
theorem ggX11_sortOf_X11_above : GoodIn wsX11_sortOf wsX11_above := goodIn_r _ [10, 11, 1, 18, 19, 20, 21, 22, 23, 24, 25, 26, 27, 28, 29, 30, 31, 32, 33, 34, 35, 36, 37, 38, 39, 40, 41, 42, 43, 44, 45, 46, 47, 48, 49, 50, 51, 52, 53, 54, 55, 56] (by decide +kernel) (by decide +kernel)
set_option maxRecDepth 20000 in
theorem gX11_sortOf_X11_above : GoodIn wsX11_sortOf (wsV RX11 187 RX11 yX11_above wsX11_above) := goodIn_app (goodIn_of _ (by decide +kernel)) ggX11_sortOf_X11_above
set_option maxRecDepth 20000 in
theorem ggX11_sortOf_X11_isCluster : GoodIn wsX11_sortOf wsX11_isCluster := goodIn_r _ [15, 16, 17, 18, 19, 20, 21, 22, 23, 24, 25, 26, 27, 28, 29, 30, 31, 32, 33, 34, 35, 36, 37, 38, 39, 40, 41, 42, 43, 44, 45, 46, 47, 48, 49, 50, 51, 52, 53, 54, 55, 56] (by decide +kernel) (by decide +kernel)
set_option maxRecDepth 20000 in
theorem gX11_sortOf_X11_isCluster : GoodIn wsX11_sortOf (wsV RX11 169 RX11 yX11_isCluster wsX11_isCluster) := goodIn_app (goodIn_of _ (by decide +kernel)) ggX11_sortOf_X11_isCluster
theorem dX11_sortOf_0 : decode cX11_sortOf 0 = .ok (.aload_n 0, 1) := by decide +kernel
theorem dX11_sortOf_1 : decode cX11_sortOf 1 = .ok (.iload_n 1, 1) := by decide +kernel
theorem dX11_sortOf_2 : decode cX11_sortOf 2 = .ok (.invokevirtual 190, 3) := by decide +kernel
theorem dX11_sortOf_5 : decode cX11_sortOf 5 = .ok (.istore_n 2, 1) := by decide +kernel
theorem dX11_sortOf_6 : decode cX11_sortOf 6 = .ok (.iload_n 2, 1) := by decide +kernel
theorem dX11_sortOf_7 : decode cX11_sortOf 7 = .ok (.iconst 3, 1) := by decide +kernel
theorem dX11_sortOf_8 : decode cX11_sortOf 8 = .ok (.if_icmp .ge 14, 3) := by decide +kernel
theorem dX11_sortOf_11 : decode cX11_sortOf 11 = .ok (.iload_n 2, 1) := by decide +kernel
theorem dX11_sortOf_12 : decode cX11_sortOf 12 = .ok (.iconst 2, 1) := by decide +kernel
theorem dX11_sortOf_13 : decode cX11_sortOf 13 = .ok (.if_icmp .ge 7, 3) := by decide +kernel
theorem dX11_sortOf_16 : decode cX11_sortOf 16 = .ok (.iconst 0, 1) := by decide +kernel
theorem dX11_sortOf_17 : decode cX11_sortOf 17 = .ok (.goto 4, 3) := by decide +kernel
theorem dX11_sortOf_20 : decode cX11_sortOf 20 = .ok (.iconst 1, 1) := by decide +kernel
theorem dX11_sortOf_21 : decode cX11_sortOf 21 = .ok (.ireturn, 1) := by decide +kernel
theorem dX11_sortOf_22 : decode cX11_sortOf 22 = .ok (.iconst 0, 1) := by decide +kernel
theorem dX11_sortOf_23 : decode cX11_sortOf 23 = .ok (.istore_n 3, 1) := by decide +kernel
theorem dX11_sortOf_24 : decode cX11_sortOf 24 = .ok (.iload_n 3, 1) := by decide +kernel
theorem dX11_sortOf_25 : decode cX11_sortOf 25 = .ok (.iload_n 1, 1) := by decide +kernel
theorem dX11_sortOf_26 : decode cX11_sortOf 26 = .ok (.if_icmp .ge 66, 3) := by decide +kernel
theorem dX11_sortOf_29 : decode cX11_sortOf 29 = .ok (.iconst 0, 1) := by decide +kernel
theorem dX11_sortOf_30 : decode cX11_sortOf 30 = .ok (.istore 4, 2) := by decide +kernel
theorem dX11_sortOf_32 : decode cX11_sortOf 32 = .ok (.iload 4, 2) := by decide +kernel
theorem dX11_sortOf_34 : decode cX11_sortOf 34 = .ok (.iload_n 3, 1) := by decide +kernel
theorem dX11_sortOf_35 : decode cX11_sortOf 35 = .ok (.if_icmp .ge 51, 3) := by decide +kernel
theorem dX11_sortOf_38 : decode cX11_sortOf 38 = .ok (.aload_n 0, 1) := by decide +kernel
theorem dX11_sortOf_39 : decode cX11_sortOf 39 = .ok (.iload_n 3, 1) := by decide +kernel
theorem dX11_sortOf_40 : decode cX11_sortOf 40 = .ok (.invokevirtual 187, 3) := by decide +kernel
theorem dX11_sortOf_43 : decode cX11_sortOf 43 = .ok (.iload_n 1, 1) := by decide +kernel
theorem dX11_sortOf_44 : decode cX11_sortOf 44 = .ok (.if_icmp .ne 36, 3) := by decide +kernel
theorem dX11_sortOf_47 : decode cX11_sortOf 47 = .ok (.aload_n 0, 1) := by decide +kernel
theorem dX11_sortOf_48 : decode cX11_sortOf 48 = .ok (.iload 4, 2) := by decide +kernel
theorem dX11_sortOf_50 : decode cX11_sortOf 50 = .ok (.invokevirtual 187, 3) := by decide +kernel
theorem dX11_sortOf_53 : decode cX11_sortOf 53 = .ok (.iload_n 1, 1) := by decide +kernel
theorem dX11_sortOf_54 : decode cX11_sortOf 54 = .ok (.if_icmp .ne 26, 3) := by decide +kernel
theorem dX11_sortOf_57 : decode cX11_sortOf 57 = .ok (.aload_n 0, 1) := by decide +kernel
theorem dX11_sortOf_58 : decode cX11_sortOf 58 = .ok (.aload_n 0, 1) := by decide +kernel
theorem dX11_sortOf_59 : decode cX11_sortOf 59 = .ok (.getfield 34, 3) := by decide +kernel
theorem dX11_sortOf_62 : decode cX11_sortOf 62 = .ok (.iload_n 3, 1) := by decide +kernel
theorem dX11_sortOf_63 : decode cX11_sortOf 63 = .ok (.iaload, 1) := by decide +kernel
theorem dX11_sortOf_64 : decode cX11_sortOf 64 = .ok (.aload_n 0, 1) := by decide +kernel
theorem dX11_sortOf_65 : decode cX11_sortOf 65 = .ok (.getfield 34, 3) := by decide +kernel
theorem dX11_sortOf_68 : decode cX11_sortOf 68 = .ok (.iload 4, 2) := by decide +kernel
theorem dX11_sortOf_70 : decode cX11_sortOf 70 = .ok (.iaload, 1) := by decide +kernel
theorem dX11_sortOf_71 : decode cX11_sortOf 71 = .ok (.ior, 1) := by decide +kernel
theorem dX11_sortOf_72 : decode cX11_sortOf 72 = .ok (.invokevirtual 169, 3) := by decide +kernel
theorem dX11_sortOf_75 : decode cX11_sortOf 75 = .ok (.ifCond .eq 5, 3) := by decide +kernel
theorem dX11_sortOf_78 : decode cX11_sortOf 78 = .ok (.iconst 2, 1) := by decide +kernel
theorem dX11_sortOf_79 : decode cX11_sortOf 79 = .ok (.ireturn, 1) := by decide +kernel
theorem dX11_sortOf_80 : decode cX11_sortOf 80 = .ok (.iinc 4 1, 3) := by decide +kernel
theorem dX11_sortOf_83 : decode cX11_sortOf 83 = .ok (.goto (-51), 3) := by decide +kernel
theorem dX11_sortOf_86 : decode cX11_sortOf 86 = .ok (.iinc 3 1, 3) := by decide +kernel
theorem dX11_sortOf_89 : decode cX11_sortOf 89 = .ok (.goto (-65), 3) := by decide +kernel
theorem dX11_sortOf_92 : decode cX11_sortOf 92 = .ok (.iconst 1, 1) := by decide +kernel
theorem dX11_sortOf_93 : decode cX11_sortOf 93 = .ok (.ireturn, 1) := by decide +kernel
set_option maxRecDepth 20000 in
theorem ggX11_clusters_X11_liesTogether : GoodIn wsX11_clusters wsX11_liesTogether := goodIn_r _ [6, 7, 1, 8, 9, 10, 5, 11, 12, 13, 14, 15, 16, 17, 18, 19, 20, 21, 22, 23, 24, 25, 26, 27, 28, 29, 30, 31, 32, 33, 34, 35, 36, 37, 38, 39, 40, 49, 50, 51, 52, 53, 54, 55, 56, 57, 58, 59, 60, 61, 62, 63, 64, 65, 66, 67, 68, 69, 70, 71, 72, 73, 74, 75, 76, 77, 78, 79, 80, 81, 82, 83, 84, 85, 86, 87] (by decide +kernel) (by decide +kernel)
set_option maxRecDepth 20000 in
theorem gX11_clusters_X11_liesTogether : GoodIn wsX11_clusters (wsV RX11 175 RX11 yX11_liesTogether wsX11_liesTogether) := goodIn_app (goodIn_of _ (by decide +kernel)) ggX11_clusters_X11_liesTogether
set_option maxRecDepth 20000 in
theorem ggX11_clusters_X11_all : GoodIn wsX11_clusters wsX11_all := goodIn_r _ [44, 18, 49, 50, 51, 52, 53, 54, 55, 56, 57, 58, 59, 60, 61, 62, 63, 64, 65, 66, 67, 68, 69, 70, 71, 72, 73, 74, 75, 76, 77, 78, 79, 80, 81, 82, 83, 84, 85, 86, 87] (by decide +kernel) (by decide +kernel)
set_option maxRecDepth 20000 in
theorem gX11_clusters_X11_all : GoodIn wsX11_clusters (wsV RX11 172 RX11 yX11_all wsX11_all) := goodIn_app (goodIn_of _ (by decide +kernel)) ggX11_clusters_X11_all
set_option maxRecDepth 20000 in
theorem ggX11_clusters_X11_isCluster : GoodIn wsX11_clusters wsX11_isCluster := goodIn_r _ [48, 7, 1, 49, 50, 51, 52, 53, 54, 55, 56, 57, 58, 59, 60, 61, 62, 63, 64, 65, 66, 67, 68, 69, 70, 71, 72, 73, 74, 75, 76, 77, 78, 79, 80, 81, 82, 83, 84, 85, 86, 87] (by decide +kernel) (by decide +kernel)
set_option maxRecDepth 20000 in
theorem gX11_clusters_X11_isCluster : GoodIn wsX11_clusters (wsV RX11 169 RX11 yX11_isCluster wsX11_isCluster) := goodIn_app (goodIn_of _ (by decide +kernel)) ggX11_clusters_X11_isCluster
theorem dX11_clusters_0 : decode cX11_clusters 0 = .ok (.aload_n 0, 1) := by decide +kernel
theorem dX11_clusters_1 : decode cX11_clusters 1 = .ok (.invokevirtual 175, 3) := by decide +kernel
theorem dX11_clusters_4 : decode cX11_clusters 4 = .ok (.aload_n 0, 1) := by decide +kernel
theorem dX11_clusters_5 : decode cX11_clusters 5 = .ok (.getfield 147, 3) := by decide +kernel
theorem dX11_clusters_8 : decode cX11_clusters 8 = .ok (.ifCond .ne 6, 3) := by decide +kernel
theorem dX11_clusters_11 : decode cX11_clusters 11 = .ok (.bipush (-3), 2) := by decide +kernel
theorem dX11_clusters_13 : decode cX11_clusters 13 = .ok (.ireturn, 1) := by decide +kernel
theorem dX11_clusters_14 : decode cX11_clusters 14 = .ok (.iconst 0, 1) := by decide +kernel
theorem dX11_clusters_15 : decode cX11_clusters 15 = .ok (.istore_n 1, 1) := by decide +kernel
theorem dX11_clusters_16 : decode cX11_clusters 16 = .ok (.iconst 1, 1) := by decide +kernel
theorem dX11_clusters_17 : decode cX11_clusters 17 = .ok (.istore_n 2, 1) := by decide +kernel
theorem dX11_clusters_18 : decode cX11_clusters 18 = .ok (.iload_n 2, 1) := by decide +kernel
theorem dX11_clusters_19 : decode cX11_clusters 19 = .ok (.aload_n 0, 1) := by decide +kernel
theorem dX11_clusters_20 : decode cX11_clusters 20 = .ok (.invokevirtual 172, 3) := by decide +kernel
theorem dX11_clusters_23 : decode cX11_clusters 23 = .ok (.if_icmp .gt 25, 3) := by decide +kernel
theorem dX11_clusters_26 : decode cX11_clusters 26 = .ok (.iload_n 1, 1) := by decide +kernel
theorem dX11_clusters_27 : decode cX11_clusters 27 = .ok (.aload_n 0, 1) := by decide +kernel
theorem dX11_clusters_28 : decode cX11_clusters 28 = .ok (.iload_n 2, 1) := by decide +kernel
theorem dX11_clusters_29 : decode cX11_clusters 29 = .ok (.invokevirtual 169, 3) := by decide +kernel
theorem dX11_clusters_32 : decode cX11_clusters 32 = .ok (.ifCond .eq 7, 3) := by decide +kernel
theorem dX11_clusters_35 : decode cX11_clusters 35 = .ok (.iconst 1, 1) := by decide +kernel
theorem dX11_clusters_36 : decode cX11_clusters 36 = .ok (.goto 4, 3) := by decide +kernel
theorem dX11_clusters_39 : decode cX11_clusters 39 = .ok (.iconst 0, 1) := by decide +kernel
theorem dX11_clusters_40 : decode cX11_clusters 40 = .ok (.iadd, 1) := by decide +kernel
theorem dX11_clusters_41 : decode cX11_clusters 41 = .ok (.istore_n 1, 1) := by decide +kernel
theorem dX11_clusters_42 : decode cX11_clusters 42 = .ok (.iinc 2 1, 3) := by decide +kernel
theorem dX11_clusters_45 : decode cX11_clusters 45 = .ok (.goto (-27), 3) := by decide +kernel
theorem dX11_clusters_48 : decode cX11_clusters 48 = .ok (.iload_n 1, 1) := by decide +kernel
theorem dX11_clusters_49 : decode cX11_clusters 49 = .ok (.ireturn, 1) := by decide +kernel
set_option maxRecDepth 20000 in
theorem ggX11_knotsOf_X11_sortOf : GoodIn wsX11_knotsOf wsX11_sortOf := goodIn_r _ [6, 7, 8, 9, 10, 5, 11, 12, 13, 14, 15, 1, 16, 17, 18, 19, 20, 21, 22, 23, 24, 25, 26, 27, 28, 29, 30, 31, 32, 33, 34, 35, 36, 37, 38, 39, 40, 41, 42, 43, 44, 45, 46, 47, 48, 49, 50, 51, 52, 53, 54, 55, 56, 57, 58, 59, 60] (by decide +kernel) (by decide +kernel)
set_option maxRecDepth 20000 in
theorem gX11_knotsOf_X11_sortOf : GoodIn wsX11_knotsOf (wsV RX11 193 RX11 yX11_sortOf wsX11_sortOf) := goodIn_app (goodIn_of _ (by decide +kernel)) ggX11_knotsOf_X11_sortOf
theorem dX11_knotsOf_0 : decode cX11_knotsOf 0 = .ok (.iconst 0, 1) := by decide +kernel
theorem dX11_knotsOf_1 : decode cX11_knotsOf 1 = .ok (.istore_n 2, 1) := by decide +kernel
theorem dX11_knotsOf_2 : decode cX11_knotsOf 2 = .ok (.iconst 0, 1) := by decide +kernel
theorem dX11_knotsOf_3 : decode cX11_knotsOf 3 = .ok (.istore_n 3, 1) := by decide +kernel
theorem dX11_knotsOf_4 : decode cX11_knotsOf 4 = .ok (.iload_n 3, 1) := by decide +kernel
theorem dX11_knotsOf_5 : decode cX11_knotsOf 5 = .ok (.aload_n 0, 1) := by decide +kernel
theorem dX11_knotsOf_6 : decode cX11_knotsOf 6 = .ok (.getfield 178, 3) := by decide +kernel
theorem dX11_knotsOf_9 : decode cX11_knotsOf 9 = .ok (.if_icmp .ge 26, 3) := by decide +kernel
theorem dX11_knotsOf_12 : decode cX11_knotsOf 12 = .ok (.iload_n 2, 1) := by decide +kernel
theorem dX11_knotsOf_13 : decode cX11_knotsOf 13 = .ok (.aload_n 0, 1) := by decide +kernel
theorem dX11_knotsOf_14 : decode cX11_knotsOf 14 = .ok (.iload_n 3, 1) := by decide +kernel
theorem dX11_knotsOf_15 : decode cX11_knotsOf 15 = .ok (.invokevirtual 193, 3) := by decide +kernel
theorem dX11_knotsOf_18 : decode cX11_knotsOf 18 = .ok (.iload_n 1, 1) := by decide +kernel
theorem dX11_knotsOf_19 : decode cX11_knotsOf 19 = .ok (.if_icmp .ne 7, 3) := by decide +kernel
theorem dX11_knotsOf_22 : decode cX11_knotsOf 22 = .ok (.iconst 1, 1) := by decide +kernel
theorem dX11_knotsOf_23 : decode cX11_knotsOf 23 = .ok (.goto 4, 3) := by decide +kernel
theorem dX11_knotsOf_26 : decode cX11_knotsOf 26 = .ok (.iconst 0, 1) := by decide +kernel
theorem dX11_knotsOf_27 : decode cX11_knotsOf 27 = .ok (.iadd, 1) := by decide +kernel
theorem dX11_knotsOf_28 : decode cX11_knotsOf 28 = .ok (.istore_n 2, 1) := by decide +kernel
theorem dX11_knotsOf_29 : decode cX11_knotsOf 29 = .ok (.iinc 3 1, 3) := by decide +kernel
theorem dX11_knotsOf_32 : decode cX11_knotsOf 32 = .ok (.goto (-28), 3) := by decide +kernel
theorem dX11_knotsOf_35 : decode cX11_knotsOf 35 = .ok (.iload_n 2, 1) := by decide +kernel
theorem dX11_knotsOf_36 : decode cX11_knotsOf 36 = .ok (.ireturn, 1) := by decide +kernel
set_option maxRecDepth 20000 in
theorem ggX11_knots_X11_in : GoodIn wsX11_knots wsX11_in := goodIn_r _ [5] (by decide +kernel) (by decide +kernel)
set_option maxRecDepth 20000 in
theorem gX11_knots_X11_in : GoodIn wsX11_knots (va_wsS RX11 83 yX11_in wsX11_in) := goodIn_app (goodIn_of _ (by decide +kernel)) ggX11_knots_X11_in
set_option maxRecDepth 20000 in
theorem ggX11_knots_X11_tellsKnots : GoodIn wsX11_knots wsX11_tellsKnots := goodIn_r _ [9, 1, 10, 11, 12, 13, 14, 15, 4, 16, 17, 18, 19, 20, 21, 22, 23, 24, 25, 26, 27, 28, 29, 30, 31, 32, 33, 34, 35, 36, 37, 38, 39, 40, 41, 42, 43, 44, 45, 46, 47, 48, 49, 50, 51, 52, 53, 54, 55, 56, 57, 58, 59, 60, 61, 62, 63, 64, 81, 82, 83, 84, 85, 86, 87, 88, 89, 90, 91, 92, 93, 94, 95, 96, 97, 98, 99, 100, 101, 102, 103, 104, 105, 106, 107, 108, 109, 110, 111, 112, 113, 114, 115, 116, 117, 118, 119] (by decide +kernel) (by decide +kernel)
set_option maxRecDepth 20000 in
theorem gX11_knots_X11_tellsKnots : GoodIn wsX11_knots (wsV RX11 196 RX11 yX11_tellsKnots wsX11_tellsKnots) := goodIn_app (goodIn_of _ (by decide +kernel)) ggX11_knots_X11_tellsKnots
set_option maxRecDepth 20000 in
theorem ggX11_knots_X11_knotsOf : GoodIn wsX11_knots wsX11_knotsOf := goodIn_r _ [68, 1, 69, 70, 71, 4, 72, 12, 73, 74, 75, 76, 77, 78, 79, 80, 61, 62, 63, 64, 17, 10, 81, 82, 83, 84, 85, 86, 87, 88, 89, 90, 91, 92, 93, 94, 95, 96, 97, 98, 99, 100, 101, 102, 103, 104, 105, 106, 107, 108, 109, 110, 111, 112, 113, 114, 115, 116, 117, 118, 119] (by decide +kernel) (by decide +kernel)
set_option maxRecDepth 20000 in
theorem gX11_knots_X11_knotsOf : GoodIn wsX11_knots (wsV RX11 199 RX11 yX11_knotsOf wsX11_knotsOf) := goodIn_app (goodIn_of _ (by decide +kernel)) ggX11_knots_X11_knotsOf
theorem dX11_knots_0 : decode cX11_knots 0 = .ok (.iload_n 1, 1) := by decide +kernel
theorem dX11_knots_1 : decode cX11_knots 1 = .ok (.iconst 0, 1) := by decide +kernel
theorem dX11_knots_2 : decode cX11_knots 2 = .ok (.iconst 2, 1) := by decide +kernel
theorem dX11_knots_3 : decode cX11_knots 3 = .ok (.invokestatic 83, 3) := by decide +kernel
theorem dX11_knots_6 : decode cX11_knots 6 = .ok (.ifCond .ne 6, 3) := by decide +kernel
theorem dX11_knots_9 : decode cX11_knots 9 = .ok (.bipush (-2), 2) := by decide +kernel
theorem dX11_knots_11 : decode cX11_knots 11 = .ok (.ireturn, 1) := by decide +kernel
theorem dX11_knots_12 : decode cX11_knots 12 = .ok (.aload_n 0, 1) := by decide +kernel
theorem dX11_knots_13 : decode cX11_knots 13 = .ok (.invokevirtual 196, 3) := by decide +kernel
theorem dX11_knots_16 : decode cX11_knots 16 = .ok (.ifCond .ne 6, 3) := by decide +kernel
theorem dX11_knots_19 : decode cX11_knots 19 = .ok (.bipush (-3), 2) := by decide +kernel
theorem dX11_knots_21 : decode cX11_knots 21 = .ok (.ireturn, 1) := by decide +kernel
theorem dX11_knots_22 : decode cX11_knots 22 = .ok (.iload_n 1, 1) := by decide +kernel
theorem dX11_knots_23 : decode cX11_knots 23 = .ok (.ifCond .ne 10, 3) := by decide +kernel
theorem dX11_knots_26 : decode cX11_knots 26 = .ok (.aload_n 0, 1) := by decide +kernel
theorem dX11_knots_27 : decode cX11_knots 27 = .ok (.getfield 178, 3) := by decide +kernel
theorem dX11_knots_30 : decode cX11_knots 30 = .ok (.goto 8, 3) := by decide +kernel
theorem dX11_knots_33 : decode cX11_knots 33 = .ok (.aload_n 0, 1) := by decide +kernel
theorem dX11_knots_34 : decode cX11_knots 34 = .ok (.iload_n 1, 1) := by decide +kernel
theorem dX11_knots_35 : decode cX11_knots 35 = .ok (.invokevirtual 199, 3) := by decide +kernel
theorem dX11_knots_38 : decode cX11_knots 38 = .ok (.ireturn, 1) := by decide +kernel
set_option maxRecDepth 20000 in
theorem ggX11_knot_X11_tellsKnots : GoodIn wsX11_knot wsX11_tellsKnots := goodIn_r _ [7, 1, 8, 9, 2, 10, 11, 12, 6, 13, 14, 15, 16, 17, 18, 19, 20, 21, 22, 23, 24, 25, 26, 27, 28, 29, 30, 31, 32, 33, 34, 35, 36, 37, 38, 39, 40, 41, 42, 43, 44, 45, 46, 47, 48, 49, 50, 51, 52, 53, 54, 55, 56, 57, 58, 59, 60, 61, 77, 78, 79, 80, 81, 82, 83, 84, 85, 86, 87, 88, 89, 90, 91, 92, 93, 94, 95, 96, 97, 98, 99, 100, 101, 102, 103, 104, 105, 106, 107, 108, 109, 110, 111, 112, 113, 114, 115] (by decide +kernel) (by decide +kernel)
set_option maxRecDepth 20000 in
theorem gX11_knot_X11_tellsKnots : GoodIn wsX11_knot (wsV RX11 196 RX11 yX11_tellsKnots wsX11_tellsKnots) := goodIn_app (goodIn_of _ (by decide +kernel)) ggX11_knot_X11_tellsKnots
set_option maxRecDepth 20000 in
theorem ggX11_knot_X11_in : GoodIn wsX11_knot wsX11_in := goodIn_r _ [64] (by decide +kernel) (by decide +kernel)
set_option maxRecDepth 20000 in
theorem gX11_knot_X11_in : GoodIn wsX11_knot (va_wsS RX11 83 yX11_in wsX11_in) := goodIn_app (goodIn_of _ (by decide +kernel)) ggX11_knot_X11_in
set_option maxRecDepth 20000 in
theorem ggX11_knot_X11_sortOf : GoodIn wsX11_knot wsX11_sortOf := goodIn_r _ [68, 2, 69, 70, 71, 6, 72, 73, 74, 75, 76, 1, 58, 59, 60, 61, 14, 8, 77, 78, 79, 80, 81, 82, 83, 84, 85, 86, 87, 88, 89, 90, 91, 92, 93, 94, 95, 96, 97, 98, 99, 100, 101, 102, 103, 104, 105, 106, 107, 108, 109, 110, 111, 112, 113, 114, 115] (by decide +kernel) (by decide +kernel)
set_option maxRecDepth 20000 in
theorem gX11_knot_X11_sortOf : GoodIn wsX11_knot (wsV RX11 193 RX11 yX11_sortOf wsX11_sortOf) := goodIn_app (goodIn_of _ (by decide +kernel)) ggX11_knot_X11_sortOf
set_option maxRecDepth 20000 in
theorem ggX11_knot_X11_childrenOf : GoodIn wsX11_knot wsX11_childrenOf := goodIn_r _ [72, 73, 74, 75, 6, 76, 1, 2, 77, 78, 79, 80, 81, 82, 83, 84, 85, 86, 87, 88, 89, 90, 91, 92, 93, 94, 95, 96, 97, 98, 99, 100, 101, 102, 103, 104, 105, 106, 107, 108, 109, 110, 111, 112, 113, 114, 115] (by decide +kernel) (by decide +kernel)
set_option maxRecDepth 20000 in
theorem gX11_knot_X11_childrenOf : GoodIn wsX11_knot (wsV RX11 190 RX11 yX11_childrenOf wsX11_childrenOf) := goodIn_app (goodIn_of _ (by decide +kernel)) ggX11_knot_X11_childrenOf
set_option maxRecDepth 20000 in
theorem ggX11_knot_X11_above : GoodIn wsX11_knot wsX11_above := goodIn_r _ [76, 1, 2, 77, 78, 79, 80, 81, 82, 83, 84, 85, 86, 87, 88, 89, 90, 91, 92, 93, 94, 95, 96, 97, 98, 99, 100, 101, 102, 103, 104, 105, 106, 107, 108, 109, 110, 111, 112, 113, 114, 115] (by decide +kernel) (by decide +kernel)
set_option maxRecDepth 20000 in
theorem gX11_knot_X11_above : GoodIn wsX11_knot (wsV RX11 187 RX11 yX11_above wsX11_above) := goodIn_app (goodIn_of _ (by decide +kernel)) ggX11_knot_X11_above
theorem dX11_knot_0 : decode cX11_knot 0 = .ok (.aload_n 0, 1) := by decide +kernel
theorem dX11_knot_1 : decode cX11_knot 1 = .ok (.invokevirtual 196, 3) := by decide +kernel
theorem dX11_knot_4 : decode cX11_knot 4 = .ok (.ifCond .ne 6, 3) := by decide +kernel
theorem dX11_knot_7 : decode cX11_knot 7 = .ok (.bipush (-3), 2) := by decide +kernel
theorem dX11_knot_9 : decode cX11_knot 9 = .ok (.ireturn, 1) := by decide +kernel
theorem dX11_knot_10 : decode cX11_knot 10 = .ok (.iload_n 1, 1) := by decide +kernel
theorem dX11_knot_11 : decode cX11_knot 11 = .ok (.iconst 0, 1) := by decide +kernel
theorem dX11_knot_12 : decode cX11_knot 12 = .ok (.aload_n 0, 1) := by decide +kernel
theorem dX11_knot_13 : decode cX11_knot 13 = .ok (.getfield 178, 3) := by decide +kernel
theorem dX11_knot_16 : decode cX11_knot 16 = .ok (.iconst 1, 1) := by decide +kernel
theorem dX11_knot_17 : decode cX11_knot 17 = .ok (.isub, 1) := by decide +kernel
theorem dX11_knot_18 : decode cX11_knot 18 = .ok (.invokestatic 83, 3) := by decide +kernel
theorem dX11_knot_21 : decode cX11_knot 21 = .ok (.ifCond .ne 5, 3) := by decide +kernel
theorem dX11_knot_24 : decode cX11_knot 24 = .ok (.iconst (-1), 1) := by decide +kernel
theorem dX11_knot_25 : decode cX11_knot 25 = .ok (.ireturn, 1) := by decide +kernel
theorem dX11_knot_26 : decode cX11_knot 26 = .ok (.iload_n 2, 1) := by decide +kernel
theorem dX11_knot_27 : decode cX11_knot 27 = .ok (.tableswitch 58 0 4 #[33, 40, 58, 46, 52], 33) := by decide +kernel
theorem dX11_knot_60 : decode cX11_knot 60 = .ok (.aload_n 0, 1) := by decide +kernel
theorem dX11_knot_61 : decode cX11_knot 61 = .ok (.getfield 34, 3) := by decide +kernel
theorem dX11_knot_64 : decode cX11_knot 64 = .ok (.iload_n 1, 1) := by decide +kernel
theorem dX11_knot_65 : decode cX11_knot 65 = .ok (.iaload, 1) := by decide +kernel
theorem dX11_knot_66 : decode cX11_knot 66 = .ok (.ireturn, 1) := by decide +kernel
theorem dX11_knot_67 : decode cX11_knot 67 = .ok (.aload_n 0, 1) := by decide +kernel
theorem dX11_knot_68 : decode cX11_knot 68 = .ok (.iload_n 1, 1) := by decide +kernel
theorem dX11_knot_69 : decode cX11_knot 69 = .ok (.invokevirtual 193, 3) := by decide +kernel
theorem dX11_knot_72 : decode cX11_knot 72 = .ok (.ireturn, 1) := by decide +kernel
theorem dX11_knot_73 : decode cX11_knot 73 = .ok (.aload_n 0, 1) := by decide +kernel
theorem dX11_knot_74 : decode cX11_knot 74 = .ok (.iload_n 1, 1) := by decide +kernel
theorem dX11_knot_75 : decode cX11_knot 75 = .ok (.invokevirtual 190, 3) := by decide +kernel
theorem dX11_knot_78 : decode cX11_knot 78 = .ok (.ireturn, 1) := by decide +kernel
theorem dX11_knot_79 : decode cX11_knot 79 = .ok (.aload_n 0, 1) := by decide +kernel
theorem dX11_knot_80 : decode cX11_knot 80 = .ok (.iload_n 1, 1) := by decide +kernel
theorem dX11_knot_81 : decode cX11_knot 81 = .ok (.invokevirtual 187, 3) := by decide +kernel
theorem dX11_knot_84 : decode cX11_knot 84 = .ok (.ireturn, 1) := by decide +kernel
theorem dX11_knot_85 : decode cX11_knot 85 = .ok (.iconst (-1), 1) := by decide +kernel
theorem dX11_knot_86 : decode cX11_knot 86 = .ok (.ireturn, 1) := by decide +kernel
set_option maxRecDepth 20000 in
theorem ggX11_told_X11_tellsKnots : GoodIn wsX11_told wsX11_tellsKnots := goodIn_r _ [8, 2, 9, 10, 11, 12, 13, 14, 7, 15, 16, 17, 18, 19, 20, 21, 22, 23, 24, 25, 26, 27, 28, 29, 30, 31, 32, 33, 34, 35, 36, 37, 38, 39, 40, 41, 42, 43, 44, 45, 46, 47, 48, 49, 50, 51, 52, 53, 54, 55, 56, 57, 58, 59, 60, 61, 62, 63, 76, 77, 78, 79, 80, 81, 82, 83, 84, 85, 86, 87, 88, 89, 90, 91, 92, 93, 94, 95, 96, 97, 98, 99, 100, 101, 102, 103, 104, 105, 106, 107, 108, 109, 110, 111, 112, 113, 114] (by decide +kernel) (by decide +kernel)
set_option maxRecDepth 20000 in
theorem gX11_told_X11_tellsKnots : GoodIn wsX11_told (wsV RX11 196 RX11 yX11_tellsKnots wsX11_tellsKnots) := goodIn_app (goodIn_of _ (by decide +kernel)) ggX11_told_X11_tellsKnots
set_option maxRecDepth 20000 in
theorem ggX11_told_X11_sortOf : GoodIn wsX11_told wsX11_sortOf := goodIn_r _ [67, 11, 68, 69, 70, 7, 71, 72, 73, 74, 75, 2, 60, 61, 62, 63, 16, 9, 76, 77, 78, 79, 80, 81, 82, 83, 84, 85, 86, 87, 88, 89, 90, 91, 92, 93, 94, 95, 96, 97, 98, 99, 100, 101, 102, 103, 104, 105, 106, 107, 108, 109, 110, 111, 112, 113, 114] (by decide +kernel) (by decide +kernel)
set_option maxRecDepth 20000 in
theorem gX11_told_X11_sortOf : GoodIn wsX11_told (wsV RX11 193 RX11 yX11_sortOf wsX11_sortOf) := goodIn_app (goodIn_of _ (by decide +kernel)) ggX11_told_X11_sortOf
set_option maxRecDepth 20000 in
theorem ggX11_told_X11_childrenOf : GoodIn wsX11_told wsX11_childrenOf := goodIn_r _ [71, 72, 73, 74, 7, 75, 2, 11, 76, 77, 78, 79, 80, 81, 82, 83, 84, 85, 86, 87, 88, 89, 90, 91, 92, 93, 94, 95, 96, 97, 98, 99, 100, 101, 102, 103, 104, 105, 106, 107, 108, 109, 110, 111, 112, 113, 114] (by decide +kernel) (by decide +kernel)
set_option maxRecDepth 20000 in
theorem gX11_told_X11_childrenOf : GoodIn wsX11_told (wsV RX11 190 RX11 yX11_childrenOf wsX11_childrenOf) := goodIn_app (goodIn_of _ (by decide +kernel)) ggX11_told_X11_childrenOf
theorem dX11_told_0 : decode cX11_told 0 = .ok (.aload_n 0, 1) := by decide +kernel
theorem dX11_told_1 : decode cX11_told 1 = .ok (.invokevirtual 196, 3) := by decide +kernel
theorem dX11_told_4 : decode cX11_told 4 = .ok (.ifCond .ne 7, 3) := by decide +kernel
theorem dX11_told_7 : decode cX11_told 7 = .ok (.ldc2_w 202, 3) := by decide +kernel
theorem dX11_told_10 : decode cX11_told 10 = .ok (.lreturn, 1) := by decide +kernel
theorem dX11_told_11 : decode cX11_told 11 = .ok (.lconst 1, 1) := by decide +kernel
theorem dX11_told_12 : decode cX11_told 12 = .ok (.lstore_n 1, 1) := by decide +kernel
theorem dX11_told_13 : decode cX11_told 13 = .ok (.iconst 0, 1) := by decide +kernel
theorem dX11_told_14 : decode cX11_told 14 = .ok (.istore_n 3, 1) := by decide +kernel
theorem dX11_told_15 : decode cX11_told 15 = .ok (.iload_n 3, 1) := by decide +kernel
theorem dX11_told_16 : decode cX11_told 16 = .ok (.aload_n 0, 1) := by decide +kernel
theorem dX11_told_17 : decode cX11_told 17 = .ok (.getfield 178, 3) := by decide +kernel
theorem dX11_told_20 : decode cX11_told 20 = .ok (.if_icmp .ge 63, 3) := by decide +kernel
theorem dX11_told_23 : decode cX11_told 23 = .ok (.aload_n 0, 1) := by decide +kernel
theorem dX11_told_24 : decode cX11_told 24 = .ok (.iload_n 3, 1) := by decide +kernel
theorem dX11_told_25 : decode cX11_told 25 = .ok (.invokevirtual 193, 3) := by decide +kernel
theorem dX11_told_28 : decode cX11_told 28 = .ok (.istore 4, 2) := by decide +kernel
theorem dX11_told_30 : decode cX11_told 30 = .ok (.lload_n 1, 1) := by decide +kernel
theorem dX11_told_31 : decode cX11_told 31 = .ok (.iload 4, 2) := by decide +kernel
theorem dX11_told_33 : decode cX11_told 33 = .ok (.iconst 2, 1) := by decide +kernel
theorem dX11_told_34 : decode cX11_told 34 = .ok (.if_icmp .ne 9, 3) := by decide +kernel
theorem dX11_told_37 : decode cX11_told 37 = .ok (.ldc2_w 204, 3) := by decide +kernel
theorem dX11_told_40 : decode cX11_told 40 = .ok (.goto 4, 3) := by decide +kernel
theorem dX11_told_43 : decode cX11_told 43 = .ok (.lconst 1, 1) := by decide +kernel
theorem dX11_told_44 : decode cX11_told 44 = .ok (.lmul, 1) := by decide +kernel
theorem dX11_told_45 : decode cX11_told 45 = .ok (.lstore_n 1, 1) := by decide +kernel
theorem dX11_told_46 : decode cX11_told 46 = .ok (.aload_n 0, 1) := by decide +kernel
theorem dX11_told_47 : decode cX11_told 47 = .ok (.iload_n 3, 1) := by decide +kernel
theorem dX11_told_48 : decode cX11_told 48 = .ok (.invokevirtual 190, 3) := by decide +kernel
theorem dX11_told_51 : decode cX11_told 51 = .ok (.istore 5, 2) := by decide +kernel
theorem dX11_told_53 : decode cX11_told 53 = .ok (.iload 5, 2) := by decide +kernel
theorem dX11_told_55 : decode cX11_told 55 = .ok (.iconst 1, 1) := by decide +kernel
theorem dX11_told_56 : decode cX11_told 56 = .ok (.if_icmp .le 21, 3) := by decide +kernel
theorem dX11_told_59 : decode cX11_told 59 = .ok (.iload 4, 2) := by decide +kernel
theorem dX11_told_61 : decode cX11_told 61 = .ok (.iconst 1, 1) := by decide +kernel
theorem dX11_told_62 : decode cX11_told 62 = .ok (.if_icmp .ne 15, 3) := by decide +kernel
theorem dX11_told_65 : decode cX11_told 65 = .ok (.lload_n 1, 1) := by decide +kernel
theorem dX11_told_66 : decode cX11_told 66 = .ok (.iload 5, 2) := by decide +kernel
theorem dX11_told_68 : decode cX11_told 68 = .ok (.i2l, 1) := by decide +kernel
theorem dX11_told_69 : decode cX11_told 69 = .ok (.lmul, 1) := by decide +kernel
theorem dX11_told_70 : decode cX11_told 70 = .ok (.lstore_n 1, 1) := by decide +kernel
theorem dX11_told_71 : decode cX11_told 71 = .ok (.iinc 5 (-1), 3) := by decide +kernel
theorem dX11_told_74 : decode cX11_told 74 = .ok (.goto (-21), 3) := by decide +kernel
theorem dX11_told_77 : decode cX11_told 77 = .ok (.iinc 3 1, 3) := by decide +kernel
theorem dX11_told_80 : decode cX11_told 80 = .ok (.goto (-65), 3) := by decide +kernel
theorem dX11_told_83 : decode cX11_told 83 = .ok (.lload_n 1, 1) := by decide +kernel
theorem dX11_told_84 : decode cX11_told 84 = .ok (.lreturn, 1) := by decide +kernel
set_option maxRecDepth 20000 in
theorem ggX11_isGaplessBy_X11_begins : GoodIn wsX11_isGaplessBy wsX11_begins := goodIn_r _ [5, 6, 7, 8, 9, 27, 28, 29, 30, 31, 32, 33, 34, 35, 36, 37, 38, 39, 40, 41, 42, 43, 44, 45, 46, 47, 48, 49, 50, 51, 52, 53, 54, 55, 56, 57, 58, 59, 60, 61, 62, 63, 64, 65] (by decide +kernel) (by decide +kernel)
set_option maxRecDepth 20000 in
theorem gX11_isGaplessBy_X11_begins : GoodIn wsX11_isGaplessBy (wsV RX11 140 RX11 yX11_begins wsX11_begins) := goodIn_app (goodIn_of _ (by decide +kernel)) ggX11_isGaplessBy_X11_begins
set_option maxRecDepth 20000 in
theorem ggX11_isGaplessBy_X11_gapsNow : GoodIn wsX11_isGaplessBy wsX11_gapsNow := goodIn_r _ [13, 14, 9, 15, 16, 4, 17, 18, 19, 20, 21, 6, 22, 8, 27, 28, 29, 30, 31, 32, 33, 34, 35, 36, 37, 38, 39, 40, 41, 42, 43, 44, 45, 46, 47, 48, 49, 50, 51, 52, 53, 54, 55, 56, 57, 58, 59, 60, 61, 62, 63, 64, 65] (by decide +kernel) (by decide +kernel)
set_option maxRecDepth 20000 in
theorem gX11_isGaplessBy_X11_gapsNow : GoodIn wsX11_isGaplessBy (wsV RX11 153 RX11 yX11_gapsNow wsX11_gapsNow) := goodIn_app (goodIn_of _ (by decide +kernel)) ggX11_isGaplessBy_X11_gapsNow
set_option maxRecDepth 20000 in
theorem ggX11_isGaplessBy_X11_goesOn : GoodIn wsX11_isGaplessBy wsX11_goesOn := goodIn_r _ [26, 6, 8, 27, 28, 29, 30, 31, 32, 33, 34, 35, 36, 37, 38, 39, 40, 41, 42, 43, 44, 45, 46, 47, 48, 49, 50, 51, 52, 53, 54, 55, 56, 57, 58, 59, 60, 61, 62, 63, 64, 65] (by decide +kernel) (by decide +kernel)
set_option maxRecDepth 20000 in
theorem gX11_isGaplessBy_X11_goesOn : GoodIn wsX11_isGaplessBy (wsV RX11 159 RX11 yX11_goesOn wsX11_goesOn) := goodIn_app (goodIn_of _ (by decide +kernel)) ggX11_isGaplessBy_X11_goesOn
theorem dX11_isGaplessBy_0 : decode cX11_isGaplessBy 0 = .ok (.aload_n 0, 1) := by decide +kernel
theorem dX11_isGaplessBy_1 : decode cX11_isGaplessBy 1 = .ok (.iload_n 1, 1) := by decide +kernel
theorem dX11_isGaplessBy_2 : decode cX11_isGaplessBy 2 = .ok (.iload_n 2, 1) := by decide +kernel
theorem dX11_isGaplessBy_3 : decode cX11_isGaplessBy 3 = .ok (.invokevirtual 140, 3) := by decide +kernel
theorem dX11_isGaplessBy_6 : decode cX11_isGaplessBy 6 = .ok (.iconst 1, 1) := by decide +kernel
theorem dX11_isGaplessBy_7 : decode cX11_isGaplessBy 7 = .ok (.istore_n 3, 1) := by decide +kernel
theorem dX11_isGaplessBy_8 : decode cX11_isGaplessBy 8 = .ok (.iload_n 3, 1) := by decide +kernel
theorem dX11_isGaplessBy_9 : decode cX11_isGaplessBy 9 = .ok (.ifCond .eq 20, 3) := by decide +kernel
theorem dX11_isGaplessBy_12 : decode cX11_isGaplessBy 12 = .ok (.aload_n 0, 1) := by decide +kernel
theorem dX11_isGaplessBy_13 : decode cX11_isGaplessBy 13 = .ok (.invokevirtual 153, 3) := by decide +kernel
theorem dX11_isGaplessBy_16 : decode cX11_isGaplessBy 16 = .ok (.ifCond .ne 5, 3) := by decide +kernel
theorem dX11_isGaplessBy_19 : decode cX11_isGaplessBy 19 = .ok (.iconst 1, 1) := by decide +kernel
theorem dX11_isGaplessBy_20 : decode cX11_isGaplessBy 20 = .ok (.ireturn, 1) := by decide +kernel
theorem dX11_isGaplessBy_21 : decode cX11_isGaplessBy 21 = .ok (.aload_n 0, 1) := by decide +kernel
theorem dX11_isGaplessBy_22 : decode cX11_isGaplessBy 22 = .ok (.invokevirtual 159, 3) := by decide +kernel
theorem dX11_isGaplessBy_25 : decode cX11_isGaplessBy 25 = .ok (.istore_n 3, 1) := by decide +kernel
theorem dX11_isGaplessBy_26 : decode cX11_isGaplessBy 26 = .ok (.goto (-18), 3) := by decide +kernel
theorem dX11_isGaplessBy_29 : decode cX11_isGaplessBy 29 = .ok (.iconst 0, 1) := by decide +kernel
theorem dX11_isGaplessBy_30 : decode cX11_isGaplessBy 30 = .ok (.ireturn, 1) := by decide +kernel
set_option maxRecDepth 20000 in
theorem ggX11_spoilers_X11_isGaplessBy : GoodIn wsX11_spoilers wsX11_isGaplessBy := goodIn_r _ [7, 8, 9, 10, 6, 11, 12, 2, 13, 14, 15, 16, 17, 18, 1, 19, 20, 21, 22, 23, 24, 25, 26, 27, 28, 29, 30, 31, 32, 33, 34, 35, 36, 37, 38, 39, 40, 41, 42, 43, 44, 45, 46, 47, 48, 49, 50, 51, 52, 53, 54, 55, 56, 57, 58, 59, 60, 61, 62, 63, 64, 65, 66, 67, 68, 69] (by decide +kernel) (by decide +kernel)
set_option maxRecDepth 20000 in
theorem gX11_spoilers_X11_isGaplessBy : GoodIn wsX11_spoilers (wsV RX11 206 RX11 yX11_isGaplessBy wsX11_isGaplessBy) := goodIn_app (goodIn_of _ (by decide +kernel)) ggX11_spoilers_X11_isGaplessBy
theorem dX11_spoilers_0 : decode cX11_spoilers 0 = .ok (.iconst 0, 1) := by decide +kernel
theorem dX11_spoilers_1 : decode cX11_spoilers 1 = .ok (.istore_n 2, 1) := by decide +kernel
theorem dX11_spoilers_2 : decode cX11_spoilers 2 = .ok (.iconst 0, 1) := by decide +kernel
theorem dX11_spoilers_3 : decode cX11_spoilers 3 = .ok (.istore_n 3, 1) := by decide +kernel
theorem dX11_spoilers_4 : decode cX11_spoilers 4 = .ok (.iload_n 3, 1) := by decide +kernel
theorem dX11_spoilers_5 : decode cX11_spoilers 5 = .ok (.iload_n 1, 1) := by decide +kernel
theorem dX11_spoilers_6 : decode cX11_spoilers 6 = .ok (.iconst 1, 1) := by decide +kernel
theorem dX11_spoilers_7 : decode cX11_spoilers 7 = .ok (.if_icmp .ne 10, 3) := by decide +kernel
theorem dX11_spoilers_10 : decode cX11_spoilers 10 = .ok (.aload_n 0, 1) := by decide +kernel
theorem dX11_spoilers_11 : decode cX11_spoilers 11 = .ok (.getfield 87, 3) := by decide +kernel
theorem dX11_spoilers_14 : decode cX11_spoilers 14 = .ok (.goto 7, 3) := by decide +kernel
theorem dX11_spoilers_17 : decode cX11_spoilers 17 = .ok (.aload_n 0, 1) := by decide +kernel
theorem dX11_spoilers_18 : decode cX11_spoilers 18 = .ok (.getfield 80, 3) := by decide +kernel
theorem dX11_spoilers_21 : decode cX11_spoilers 21 = .ok (.if_icmp .ge 66, 3) := by decide +kernel
theorem dX11_spoilers_24 : decode cX11_spoilers 24 = .ok (.iload_n 1, 1) := by decide +kernel
theorem dX11_spoilers_25 : decode cX11_spoilers 25 = .ok (.iconst 1, 1) := by decide +kernel
theorem dX11_spoilers_26 : decode cX11_spoilers 26 = .ok (.if_icmp .ne 25, 3) := by decide +kernel
theorem dX11_spoilers_29 : decode cX11_spoilers 29 = .ok (.aload_n 0, 1) := by decide +kernel
theorem dX11_spoilers_30 : decode cX11_spoilers 30 = .ok (.iconst (-1), 1) := by decide +kernel
theorem dX11_spoilers_31 : decode cX11_spoilers 31 = .ok (.iconst 1, 1) := by decide +kernel
theorem dX11_spoilers_32 : decode cX11_spoilers 32 = .ok (.aload_n 0, 1) := by decide +kernel
theorem dX11_spoilers_33 : decode cX11_spoilers 33 = .ok (.getfield 87, 3) := by decide +kernel
theorem dX11_spoilers_36 : decode cX11_spoilers 36 = .ok (.ishl, 1) := by decide +kernel
theorem dX11_spoilers_37 : decode cX11_spoilers 37 = .ok (.iconst 1, 1) := by decide +kernel
theorem dX11_spoilers_38 : decode cX11_spoilers 38 = .ok (.isub, 1) := by decide +kernel
theorem dX11_spoilers_39 : decode cX11_spoilers 39 = .ok (.iconst 1, 1) := by decide +kernel
theorem dX11_spoilers_40 : decode cX11_spoilers 40 = .ok (.iload_n 3, 1) := by decide +kernel
theorem dX11_spoilers_41 : decode cX11_spoilers 41 = .ok (.ishl, 1) := by decide +kernel
theorem dX11_spoilers_42 : decode cX11_spoilers 42 = .ok (.iconst (-1), 1) := by decide +kernel
theorem dX11_spoilers_43 : decode cX11_spoilers 43 = .ok (.ixor, 1) := by decide +kernel
theorem dX11_spoilers_44 : decode cX11_spoilers 44 = .ok (.iand, 1) := by decide +kernel
theorem dX11_spoilers_45 : decode cX11_spoilers 45 = .ok (.invokevirtual 206, 3) := by decide +kernel
theorem dX11_spoilers_48 : decode cX11_spoilers 48 = .ok (.goto 16, 3) := by decide +kernel
theorem dX11_spoilers_51 : decode cX11_spoilers 51 = .ok (.aload_n 0, 1) := by decide +kernel
theorem dX11_spoilers_52 : decode cX11_spoilers 52 = .ok (.iload_n 3, 1) := by decide +kernel
theorem dX11_spoilers_53 : decode cX11_spoilers 53 = .ok (.iconst 1, 1) := by decide +kernel
theorem dX11_spoilers_54 : decode cX11_spoilers 54 = .ok (.aload_n 0, 1) := by decide +kernel
theorem dX11_spoilers_55 : decode cX11_spoilers 55 = .ok (.getfield 87, 3) := by decide +kernel
theorem dX11_spoilers_58 : decode cX11_spoilers 58 = .ok (.ishl, 1) := by decide +kernel
theorem dX11_spoilers_59 : decode cX11_spoilers 59 = .ok (.iconst 1, 1) := by decide +kernel
theorem dX11_spoilers_60 : decode cX11_spoilers 60 = .ok (.isub, 1) := by decide +kernel
theorem dX11_spoilers_61 : decode cX11_spoilers 61 = .ok (.invokevirtual 206, 3) := by decide +kernel
theorem dX11_spoilers_64 : decode cX11_spoilers 64 = .ok (.istore 4, 2) := by decide +kernel
theorem dX11_spoilers_66 : decode cX11_spoilers 66 = .ok (.iload_n 2, 1) := by decide +kernel
theorem dX11_spoilers_67 : decode cX11_spoilers 67 = .ok (.iload 4, 2) := by decide +kernel
theorem dX11_spoilers_69 : decode cX11_spoilers 69 = .ok (.ifCond .eq 9, 3) := by decide +kernel
theorem dX11_spoilers_72 : decode cX11_spoilers 72 = .ok (.iconst 1, 1) := by decide +kernel
theorem dX11_spoilers_73 : decode cX11_spoilers 73 = .ok (.iload_n 3, 1) := by decide +kernel
theorem dX11_spoilers_74 : decode cX11_spoilers 74 = .ok (.ishl, 1) := by decide +kernel
theorem dX11_spoilers_75 : decode cX11_spoilers 75 = .ok (.goto 4, 3) := by decide +kernel
theorem dX11_spoilers_78 : decode cX11_spoilers 78 = .ok (.iconst 0, 1) := by decide +kernel
theorem dX11_spoilers_79 : decode cX11_spoilers 79 = .ok (.ior, 1) := by decide +kernel
theorem dX11_spoilers_80 : decode cX11_spoilers 80 = .ok (.istore_n 2, 1) := by decide +kernel
theorem dX11_spoilers_81 : decode cX11_spoilers 81 = .ok (.iinc 3 1, 3) := by decide +kernel
theorem dX11_spoilers_84 : decode cX11_spoilers 84 = .ok (.goto (-80), 3) := by decide +kernel
theorem dX11_spoilers_87 : decode cX11_spoilers 87 = .ok (.iload_n 2, 1) := by decide +kernel
theorem dX11_spoilers_88 : decode cX11_spoilers 88 = .ok (.ireturn, 1) := by decide +kernel
set_option maxRecDepth 20000 in
theorem ggX11_least_X11_has : GoodIn wsX11_least wsX11_has := goodIn_r _ [4] (by decide +kernel) (by decide +kernel)
set_option maxRecDepth 20000 in
theorem gX11_least_X11_has : GoodIn wsX11_least (va_wsS RX11 114 yX11_has wsX11_has) := goodIn_app (goodIn_of _ (by decide +kernel)) ggX11_least_X11_has
theorem dX11_least_0 : decode cX11_least 0 = .ok (.iconst 0, 1) := by decide +kernel
theorem dX11_least_1 : decode cX11_least 1 = .ok (.istore_n 1, 1) := by decide +kernel
theorem dX11_least_2 : decode cX11_least 2 = .ok (.iload_n 0, 1) := by decide +kernel
theorem dX11_least_3 : decode cX11_least 3 = .ok (.ifCond .eq 17, 3) := by decide +kernel
theorem dX11_least_6 : decode cX11_least 6 = .ok (.iload_n 0, 1) := by decide +kernel
theorem dX11_least_7 : decode cX11_least 7 = .ok (.iload_n 1, 1) := by decide +kernel
theorem dX11_least_8 : decode cX11_least 8 = .ok (.invokestatic 114, 3) := by decide +kernel
theorem dX11_least_11 : decode cX11_least 11 = .ok (.ifCond .ne 9, 3) := by decide +kernel
theorem dX11_least_14 : decode cX11_least 14 = .ok (.iinc 1 1, 3) := by decide +kernel
theorem dX11_least_17 : decode cX11_least 17 = .ok (.goto (-15), 3) := by decide +kernel
theorem dX11_least_20 : decode cX11_least 20 = .ok (.iload_n 0, 1) := by decide +kernel
theorem dX11_least_21 : decode cX11_least 21 = .ok (.ifCond .ne 8, 3) := by decide +kernel
theorem dX11_least_24 : decode cX11_least 24 = .ok (.bipush (-5), 2) := by decide +kernel
theorem dX11_least_26 : decode cX11_least 26 = .ok (.goto 4, 3) := by decide +kernel
theorem dX11_least_29 : decode cX11_least 29 = .ok (.iload_n 1, 1) := by decide +kernel
theorem dX11_least_30 : decode cX11_least 30 = .ok (.ireturn, 1) := by decide +kernel
set_option maxRecDepth 20000 in
theorem ggX11_spoils_X11_in : GoodIn wsX11_spoils wsX11_in := goodIn_r _ [5] (by decide +kernel) (by decide +kernel)
set_option maxRecDepth 20000 in
theorem gX11_spoils_X11_in : GoodIn wsX11_spoils (va_wsS RX11 83 yX11_in wsX11_in) := goodIn_app (goodIn_of _ (by decide +kernel)) ggX11_spoils_X11_in
set_option maxRecDepth 20000 in
theorem ggX11_spoils_X11_isGaplessBy : GoodIn wsX11_spoils wsX11_isGaplessBy := goodIn_r _ [9, 10, 11, 12, 4, 13, 14, 15, 16, 17, 18, 19, 20, 21, 1, 22, 23, 24, 25, 26, 27, 28, 29, 30, 31, 32, 33, 41, 42, 43, 44, 45, 46, 47, 48, 49, 50, 51, 52, 53, 54, 55, 56, 57, 58, 59, 60, 61, 62, 63, 64, 65, 66, 67, 68, 69, 70, 71, 72, 73, 74, 75, 76, 77, 78, 79] (by decide +kernel) (by decide +kernel)
set_option maxRecDepth 20000 in
theorem gX11_spoils_X11_isGaplessBy : GoodIn wsX11_spoils (wsV RX11 206 RX11 yX11_isGaplessBy wsX11_isGaplessBy) := goodIn_app (goodIn_of _ (by decide +kernel)) ggX11_spoils_X11_isGaplessBy
set_option maxRecDepth 20000 in
theorem ggX11_spoils_X11_spoilers : GoodIn wsX11_spoils wsX11_spoilers := goodIn_r _ [37, 1, 15, 6, 7, 8, 4, 9, 10, 11, 12, 13, 14, 16, 17, 18, 19, 20, 21, 22, 23, 24, 25, 26, 27, 28, 29, 30, 31, 32, 33, 41, 42, 43, 44, 45, 46, 47, 48, 49, 50, 51, 52, 53, 54, 55, 56, 57, 58, 59, 60, 61, 62, 63, 64, 65, 66, 67, 68, 69, 70, 71, 72, 73, 74, 75, 76, 77, 78, 79] (by decide +kernel) (by decide +kernel)
set_option maxRecDepth 20000 in
theorem gX11_spoils_X11_spoilers : GoodIn wsX11_spoils (wsV RX11 209 RX11 yX11_spoilers wsX11_spoilers) := goodIn_app (goodIn_of _ (by decide +kernel)) ggX11_spoils_X11_spoilers
set_option maxRecDepth 20000 in
theorem ggX11_spoils_X11_least : GoodIn wsX11_spoils wsX11_least := goodIn_r _ [40, 22, 23, 4, 24] (by decide +kernel) (by decide +kernel)
set_option maxRecDepth 20000 in
theorem gX11_spoils_X11_least : GoodIn wsX11_spoils (va_wsS RX11 212 yX11_least wsX11_least) := goodIn_app (goodIn_of _ (by decide +kernel)) ggX11_spoils_X11_least
theorem dX11_spoils_0 : decode cX11_spoils 0 = .ok (.iload_n 1, 1) := by decide +kernel
theorem dX11_spoils_1 : decode cX11_spoils 1 = .ok (.iconst 0, 1) := by decide +kernel
theorem dX11_spoils_2 : decode cX11_spoils 2 = .ok (.iconst 2, 1) := by decide +kernel
theorem dX11_spoils_3 : decode cX11_spoils 3 = .ok (.invokestatic 83, 3) := by decide +kernel
theorem dX11_spoils_6 : decode cX11_spoils 6 = .ok (.ifCond .ne 6, 3) := by decide +kernel
theorem dX11_spoils_9 : decode cX11_spoils 9 = .ok (.bipush (-2), 2) := by decide +kernel
theorem dX11_spoils_11 : decode cX11_spoils 11 = .ok (.ireturn, 1) := by decide +kernel
theorem dX11_spoils_12 : decode cX11_spoils 12 = .ok (.aload_n 0, 1) := by decide +kernel
theorem dX11_spoils_13 : decode cX11_spoils 13 = .ok (.iconst (-1), 1) := by decide +kernel
theorem dX11_spoils_14 : decode cX11_spoils 14 = .ok (.iconst 1, 1) := by decide +kernel
theorem dX11_spoils_15 : decode cX11_spoils 15 = .ok (.aload_n 0, 1) := by decide +kernel
theorem dX11_spoils_16 : decode cX11_spoils 16 = .ok (.getfield 87, 3) := by decide +kernel
theorem dX11_spoils_19 : decode cX11_spoils 19 = .ok (.ishl, 1) := by decide +kernel
theorem dX11_spoils_20 : decode cX11_spoils 20 = .ok (.iconst 1, 1) := by decide +kernel
theorem dX11_spoils_21 : decode cX11_spoils 21 = .ok (.isub, 1) := by decide +kernel
theorem dX11_spoils_22 : decode cX11_spoils 22 = .ok (.invokevirtual 206, 3) := by decide +kernel
theorem dX11_spoils_25 : decode cX11_spoils 25 = .ok (.ifCond .eq 7, 3) := by decide +kernel
theorem dX11_spoils_28 : decode cX11_spoils 28 = .ok (.iconst 0, 1) := by decide +kernel
theorem dX11_spoils_29 : decode cX11_spoils 29 = .ok (.goto 8, 3) := by decide +kernel
theorem dX11_spoils_32 : decode cX11_spoils 32 = .ok (.aload_n 0, 1) := by decide +kernel
theorem dX11_spoils_33 : decode cX11_spoils 33 = .ok (.iload_n 1, 1) := by decide +kernel
theorem dX11_spoils_34 : decode cX11_spoils 34 = .ok (.invokevirtual 209, 3) := by decide +kernel
theorem dX11_spoils_37 : decode cX11_spoils 37 = .ok (.istore_n 2, 1) := by decide +kernel
theorem dX11_spoils_38 : decode cX11_spoils 38 = .ok (.iload_n 1, 1) := by decide +kernel
theorem dX11_spoils_39 : decode cX11_spoils 39 = .ok (.iconst 2, 1) := by decide +kernel
theorem dX11_spoils_40 : decode cX11_spoils 40 = .ok (.if_icmp .ne 10, 3) := by decide +kernel
theorem dX11_spoils_43 : decode cX11_spoils 43 = .ok (.iload_n 2, 1) := by decide +kernel
theorem dX11_spoils_44 : decode cX11_spoils 44 = .ok (.invokestatic 212, 3) := by decide +kernel
theorem dX11_spoils_47 : decode cX11_spoils 47 = .ok (.goto 4, 3) := by decide +kernel
theorem dX11_spoils_50 : decode cX11_spoils 50 = .ok (.iload_n 2, 1) := by decide +kernel
theorem dX11_spoils_51 : decode cX11_spoils 51 = .ok (.ireturn, 1) := by decide +kernel
set_option maxRecDepth 20000 in
theorem ggX11_gaps_X11_isOrder : GoodIn wsX11_gaps wsX11_isOrder := goodIn_r _ [5, 6, 7, 8, 9, 10, 11, 12, 13, 4, 14, 15, 16, 17, 18, 19, 20, 30, 31, 32, 33, 34, 35, 36, 37, 38, 39, 40, 41, 42, 43, 44, 45, 46, 47, 48, 49, 50, 51, 52, 53, 54, 55, 56, 57, 58, 59, 60, 61, 62, 63, 64, 65, 66, 67, 68] (by decide +kernel) (by decide +kernel)
set_option maxRecDepth 20000 in
theorem gX11_gaps_X11_isOrder : GoodIn wsX11_gaps (wsV RX11 215 RX11 yX11_isOrder wsX11_isOrder) := goodIn_app (goodIn_of _ (by decide +kernel)) ggX11_gaps_X11_isOrder
set_option maxRecDepth 20000 in
theorem ggX11_gaps_X11_gapsNow : GoodIn wsX11_gaps wsX11_gapsNow := goodIn_r _ [24, 8, 9, 18, 19, 4, 20, 25, 26, 27, 28, 7, 29, 10, 30, 31, 32, 33, 34, 35, 36, 37, 38, 39, 40, 41, 42, 43, 44, 45, 46, 47, 48, 49, 50, 51, 52, 53, 54, 55, 56, 57, 58, 59, 60, 61, 62, 63, 64, 65, 66, 67, 68] (by decide +kernel) (by decide +kernel)
set_option maxRecDepth 20000 in
theorem gX11_gaps_X11_gapsNow : GoodIn wsX11_gaps (wsV RX11 153 RX11 yX11_gapsNow wsX11_gapsNow) := goodIn_app (goodIn_of _ (by decide +kernel)) ggX11_gaps_X11_gapsNow
theorem dX11_gaps_0 : decode cX11_gaps 0 = .ok (.aload_n 0, 1) := by decide +kernel
theorem dX11_gaps_1 : decode cX11_gaps 1 = .ok (.iload_n 1, 1) := by decide +kernel
theorem dX11_gaps_2 : decode cX11_gaps 2 = .ok (.invokevirtual 215, 3) := by decide +kernel
theorem dX11_gaps_5 : decode cX11_gaps 5 = .ok (.ifCond .eq 10, 3) := by decide +kernel
theorem dX11_gaps_8 : decode cX11_gaps 8 = .ok (.aload_n 0, 1) := by decide +kernel
theorem dX11_gaps_9 : decode cX11_gaps 9 = .ok (.invokevirtual 153, 3) := by decide +kernel
theorem dX11_gaps_12 : decode cX11_gaps 12 = .ok (.goto 5, 3) := by decide +kernel
theorem dX11_gaps_15 : decode cX11_gaps 15 = .ok (.bipush (-2), 2) := by decide +kernel
theorem dX11_gaps_17 : decode cX11_gaps 17 = .ok (.ireturn, 1) := by decide +kernel
set_option maxRecDepth 20000 in
theorem ggX11_runs_X11_isOrder : GoodIn wsX11_runs wsX11_isOrder := goodIn_r _ [6, 7, 8, 1, 9, 10, 11, 12, 13, 5, 14, 15, 16, 17, 18, 19, 20, 26, 27, 28, 29, 30, 31, 32, 33, 34, 35, 36, 37, 38, 39, 40, 41, 42, 43, 44, 45, 46, 47, 48, 49, 50, 51, 52, 53, 54, 55, 56, 57, 58, 59, 60, 61, 62, 63, 64] (by decide +kernel) (by decide +kernel)
set_option maxRecDepth 20000 in
theorem gX11_runs_X11_isOrder : GoodIn wsX11_runs (wsV RX11 215 RX11 yX11_isOrder wsX11_isOrder) := goodIn_app (goodIn_of _ (by decide +kernel)) ggX11_runs_X11_isOrder
set_option maxRecDepth 20000 in
theorem ggX11_runs_X11_gapsOf : GoodIn wsX11_runs wsX11_gapsOf := goodIn_r _ [24, 8, 25, 10, 18, 19, 5, 20, 26, 27, 28, 29, 30, 31, 32, 33, 34, 35, 36, 37, 38, 39, 40, 41, 42, 43, 44, 45, 46, 47, 48, 49, 50, 51, 52, 53, 54, 55, 56, 57, 58, 59, 60, 61, 62, 63, 64] (by decide +kernel) (by decide +kernel)
set_option maxRecDepth 20000 in
theorem gX11_runs_X11_gapsOf : GoodIn wsX11_runs (wsV RX11 144 RX11 yX11_gapsOf wsX11_gapsOf) := goodIn_app (goodIn_of _ (by decide +kernel)) ggX11_runs_X11_gapsOf
theorem dX11_runs_0 : decode cX11_runs 0 = .ok (.aload_n 0, 1) := by decide +kernel
theorem dX11_runs_1 : decode cX11_runs 1 = .ok (.iload_n 1, 1) := by decide +kernel
theorem dX11_runs_2 : decode cX11_runs 2 = .ok (.invokevirtual 215, 3) := by decide +kernel
theorem dX11_runs_5 : decode cX11_runs 5 = .ok (.ifCond .ne 6, 3) := by decide +kernel
theorem dX11_runs_8 : decode cX11_runs 8 = .ok (.bipush (-2), 2) := by decide +kernel
theorem dX11_runs_10 : decode cX11_runs 10 = .ok (.ireturn, 1) := by decide +kernel
theorem dX11_runs_11 : decode cX11_runs 11 = .ok (.iconst 0, 1) := by decide +kernel
theorem dX11_runs_12 : decode cX11_runs 12 = .ok (.istore_n 2, 1) := by decide +kernel
theorem dX11_runs_13 : decode cX11_runs 13 = .ok (.iconst 0, 1) := by decide +kernel
theorem dX11_runs_14 : decode cX11_runs 14 = .ok (.istore_n 3, 1) := by decide +kernel
theorem dX11_runs_15 : decode cX11_runs 15 = .ok (.iload_n 3, 1) := by decide +kernel
theorem dX11_runs_16 : decode cX11_runs 16 = .ok (.aload_n 0, 1) := by decide +kernel
theorem dX11_runs_17 : decode cX11_runs 17 = .ok (.getfield 87, 3) := by decide +kernel
theorem dX11_runs_20 : decode cX11_runs 20 = .ok (.if_icmp .ge 27, 3) := by decide +kernel
theorem dX11_runs_23 : decode cX11_runs 23 = .ok (.iload_n 2, 1) := by decide +kernel
theorem dX11_runs_24 : decode cX11_runs 24 = .ok (.aload_n 0, 1) := by decide +kernel
theorem dX11_runs_25 : decode cX11_runs 25 = .ok (.iload_n 3, 1) := by decide +kernel
theorem dX11_runs_26 : decode cX11_runs 26 = .ok (.invokevirtual 144, 3) := by decide +kernel
theorem dX11_runs_29 : decode cX11_runs 29 = .ok (.ifCond .ne 9, 3) := by decide +kernel
theorem dX11_runs_32 : decode cX11_runs 32 = .ok (.iconst 1, 1) := by decide +kernel
theorem dX11_runs_33 : decode cX11_runs 33 = .ok (.iload_n 3, 1) := by decide +kernel
theorem dX11_runs_34 : decode cX11_runs 34 = .ok (.ishl, 1) := by decide +kernel
theorem dX11_runs_35 : decode cX11_runs 35 = .ok (.goto 4, 3) := by decide +kernel
theorem dX11_runs_38 : decode cX11_runs 38 = .ok (.iconst 0, 1) := by decide +kernel
theorem dX11_runs_39 : decode cX11_runs 39 = .ok (.ior, 1) := by decide +kernel
theorem dX11_runs_40 : decode cX11_runs 40 = .ok (.istore_n 2, 1) := by decide +kernel
theorem dX11_runs_41 : decode cX11_runs 41 = .ok (.iinc 3 1, 3) := by decide +kernel
theorem dX11_runs_44 : decode cX11_runs 44 = .ok (.goto (-29), 3) := by decide +kernel
theorem dX11_runs_47 : decode cX11_runs 47 = .ok (.iload_n 2, 1) := by decide +kernel
theorem dX11_runs_48 : decode cX11_runs 48 = .ok (.ireturn, 1) := by decide +kernel
set_option maxRecDepth 20000 in
theorem ggX11_kinshipNow_X11_bits : GoodIn wsX11_kinshipNow wsX11_bits := goodIn_r _ [7] (by decide +kernel) (by decide +kernel)
set_option maxRecDepth 20000 in
theorem gX11_kinshipNow_X11_bits : GoodIn wsX11_kinshipNow (va_wsS RX11 181 yX11_bits wsX11_bits) := goodIn_app (goodIn_of _ (by decide +kernel)) ggX11_kinshipNow_X11_bits
theorem dX11_kinshipNow_0 : decode cX11_kinshipNow 0 = .ok (.iconst 0, 1) := by decide +kernel
theorem dX11_kinshipNow_1 : decode cX11_kinshipNow 1 = .ok (.istore_n 1, 1) := by decide +kernel
theorem dX11_kinshipNow_2 : decode cX11_kinshipNow 2 = .ok (.iconst 1, 1) := by decide +kernel
theorem dX11_kinshipNow_3 : decode cX11_kinshipNow 3 = .ok (.istore_n 2, 1) := by decide +kernel
theorem dX11_kinshipNow_4 : decode cX11_kinshipNow 4 = .ok (.iload_n 2, 1) := by decide +kernel
theorem dX11_kinshipNow_5 : decode cX11_kinshipNow 5 = .ok (.aload_n 0, 1) := by decide +kernel
theorem dX11_kinshipNow_6 : decode cX11_kinshipNow 6 = .ok (.getfield 134, 3) := by decide +kernel
theorem dX11_kinshipNow_9 : decode cX11_kinshipNow 9 = .ok (.if_icmp .ge 40, 3) := by decide +kernel
theorem dX11_kinshipNow_12 : decode cX11_kinshipNow 12 = .ok (.iload_n 1, 1) := by decide +kernel
theorem dX11_kinshipNow_13 : decode cX11_kinshipNow 13 = .ok (.aload_n 0, 1) := by decide +kernel
theorem dX11_kinshipNow_14 : decode cX11_kinshipNow 14 = .ok (.getfield 19, 3) := by decide +kernel
theorem dX11_kinshipNow_17 : decode cX11_kinshipNow 17 = .ok (.aload_n 0, 1) := by decide +kernel
theorem dX11_kinshipNow_18 : decode cX11_kinshipNow 18 = .ok (.getfield 25, 3) := by decide +kernel
theorem dX11_kinshipNow_21 : decode cX11_kinshipNow 21 = .ok (.iload_n 2, 1) := by decide +kernel
theorem dX11_kinshipNow_22 : decode cX11_kinshipNow 22 = .ok (.iaload, 1) := by decide +kernel
theorem dX11_kinshipNow_23 : decode cX11_kinshipNow 23 = .ok (.iaload, 1) := by decide +kernel
theorem dX11_kinshipNow_24 : decode cX11_kinshipNow 24 = .ok (.aload_n 0, 1) := by decide +kernel
theorem dX11_kinshipNow_25 : decode cX11_kinshipNow 25 = .ok (.getfield 19, 3) := by decide +kernel
theorem dX11_kinshipNow_28 : decode cX11_kinshipNow 28 = .ok (.aload_n 0, 1) := by decide +kernel
theorem dX11_kinshipNow_29 : decode cX11_kinshipNow 29 = .ok (.getfield 25, 3) := by decide +kernel
theorem dX11_kinshipNow_32 : decode cX11_kinshipNow 32 = .ok (.iload_n 2, 1) := by decide +kernel
theorem dX11_kinshipNow_33 : decode cX11_kinshipNow 33 = .ok (.iconst 1, 1) := by decide +kernel
theorem dX11_kinshipNow_34 : decode cX11_kinshipNow 34 = .ok (.isub, 1) := by decide +kernel
theorem dX11_kinshipNow_35 : decode cX11_kinshipNow 35 = .ok (.iaload, 1) := by decide +kernel
theorem dX11_kinshipNow_36 : decode cX11_kinshipNow 36 = .ok (.iaload, 1) := by decide +kernel
theorem dX11_kinshipNow_37 : decode cX11_kinshipNow 37 = .ok (.iand, 1) := by decide +kernel
theorem dX11_kinshipNow_38 : decode cX11_kinshipNow 38 = .ok (.invokestatic 181, 3) := by decide +kernel
theorem dX11_kinshipNow_41 : decode cX11_kinshipNow 41 = .ok (.iadd, 1) := by decide +kernel
theorem dX11_kinshipNow_42 : decode cX11_kinshipNow 42 = .ok (.istore_n 1, 1) := by decide +kernel
theorem dX11_kinshipNow_43 : decode cX11_kinshipNow 43 = .ok (.iinc 2 1, 3) := by decide +kernel
theorem dX11_kinshipNow_46 : decode cX11_kinshipNow 46 = .ok (.goto (-42), 3) := by decide +kernel
theorem dX11_kinshipNow_49 : decode cX11_kinshipNow 49 = .ok (.iload_n 1, 1) := by decide +kernel
theorem dX11_kinshipNow_50 : decode cX11_kinshipNow 50 = .ok (.ireturn, 1) := by decide +kernel
set_option maxRecDepth 20000 in
theorem ggX11_kinship_X11_isOrder : GoodIn wsX11_kinship wsX11_isOrder := goodIn_r _ [5, 6, 7, 8, 9, 10, 11, 12, 13, 4, 14, 15, 16, 17, 18, 19, 20, 29, 30, 31, 32, 33, 34, 35, 36, 37, 38, 39, 40, 41, 42, 43, 44, 45, 46, 47, 48, 49, 50, 51, 52, 53, 54, 55, 56, 57, 58, 59, 60, 61, 62, 63, 64, 65, 66, 67] (by decide +kernel) (by decide +kernel)
set_option maxRecDepth 20000 in
theorem gX11_kinship_X11_isOrder : GoodIn wsX11_kinship (wsV RX11 215 RX11 yX11_isOrder wsX11_isOrder) := goodIn_app (goodIn_of _ (by decide +kernel)) ggX11_kinship_X11_isOrder
set_option maxRecDepth 20000 in
theorem ggX11_kinship_X11_kinshipNow : GoodIn wsX11_kinship wsX11_kinshipNow := goodIn_r _ [24, 7, 25, 10, 26, 27, 4, 28, 29, 30, 31, 32, 33, 34, 35, 36, 37, 38, 39, 40, 41, 42, 43, 44, 45, 46, 47, 48, 49, 50, 51, 52, 53, 54, 55, 56, 57, 58, 59, 60, 61, 62, 63, 64, 65, 66, 67] (by decide +kernel) (by decide +kernel)
set_option maxRecDepth 20000 in
theorem gX11_kinship_X11_kinshipNow : GoodIn wsX11_kinship (wsV RX11 218 RX11 yX11_kinshipNow wsX11_kinshipNow) := goodIn_app (goodIn_of _ (by decide +kernel)) ggX11_kinship_X11_kinshipNow
theorem dX11_kinship_0 : decode cX11_kinship 0 = .ok (.aload_n 0, 1) := by decide +kernel
theorem dX11_kinship_1 : decode cX11_kinship 1 = .ok (.iload_n 1, 1) := by decide +kernel
theorem dX11_kinship_2 : decode cX11_kinship 2 = .ok (.invokevirtual 215, 3) := by decide +kernel
theorem dX11_kinship_5 : decode cX11_kinship 5 = .ok (.ifCond .eq 10, 3) := by decide +kernel
theorem dX11_kinship_8 : decode cX11_kinship 8 = .ok (.aload_n 0, 1) := by decide +kernel
theorem dX11_kinship_9 : decode cX11_kinship 9 = .ok (.invokevirtual 218, 3) := by decide +kernel
theorem dX11_kinship_12 : decode cX11_kinship 12 = .ok (.goto 5, 3) := by decide +kernel
theorem dX11_kinship_15 : decode cX11_kinship 15 = .ok (.bipush (-2), 2) := by decide +kernel
theorem dX11_kinship_17 : decode cX11_kinship 17 = .ok (.ireturn, 1) := by decide +kernel
set_option maxRecDepth 20000 in
theorem ggX11_kin_X11_in : GoodIn wsX11_kin wsX11_in := goodIn_r _ [4] (by decide +kernel) (by decide +kernel)
set_option maxRecDepth 20000 in
theorem gX11_kin_X11_in : GoodIn wsX11_kin (va_wsS RX11 83 yX11_in wsX11_in) := goodIn_app (goodIn_of _ (by decide +kernel)) ggX11_kin_X11_in
set_option maxRecDepth 20000 in
theorem ggX11_kin_X11_beginsAll : GoodIn wsX11_kin wsX11_beginsAll := goodIn_r _ [8, 9, 10, 11, 12, 3, 13, 14, 15, 16, 17, 34, 35, 36, 37, 38, 39, 40, 41, 42, 43, 44, 45, 46, 47, 48, 49, 50, 51, 52, 53, 54, 55, 56, 57, 58, 59, 60, 61, 62, 63, 64, 65, 66, 67, 68, 69, 70, 71, 72] (by decide +kernel) (by decide +kernel)
set_option maxRecDepth 20000 in
theorem gX11_kin_X11_beginsAll : GoodIn wsX11_kin (wsV RX11 150 RX11 yX11_beginsAll wsX11_beginsAll) := goodIn_app (goodIn_of _ (by decide +kernel)) ggX11_kin_X11_beginsAll
set_option maxRecDepth 20000 in
theorem ggX11_kin_X11_kinshipNow : GoodIn wsX11_kin wsX11_kinshipNow := goodIn_r _ [21, 14, 22, 16, 23, 24, 3, 25, 34, 35, 36, 37, 38, 39, 40, 41, 42, 43, 44, 45, 46, 47, 48, 49, 50, 51, 52, 53, 54, 55, 56, 57, 58, 59, 60, 61, 62, 63, 64, 65, 66, 67, 68, 69, 70, 71, 72] (by decide +kernel) (by decide +kernel)
set_option maxRecDepth 20000 in
theorem gX11_kin_X11_kinshipNow : GoodIn wsX11_kin (wsV RX11 218 RX11 yX11_kinshipNow wsX11_kinshipNow) := goodIn_app (goodIn_of _ (by decide +kernel)) ggX11_kin_X11_kinshipNow
set_option maxRecDepth 20000 in
theorem ggX11_kin_X11_digits : GoodIn wsX11_kin wsX11_digits := goodIn_r _ [29, 14, 16, 34, 35, 36, 37, 38, 39, 40, 41, 42, 43, 44, 45, 46, 47, 48, 49, 50, 51, 52, 53, 54, 55, 56, 57, 58, 59, 60, 61, 62, 63, 64, 65, 66, 67, 68, 69, 70, 71, 72] (by decide +kernel) (by decide +kernel)
set_option maxRecDepth 20000 in
theorem gX11_kin_X11_digits : GoodIn wsX11_kin (wsV RX11 156 RX11 yX11_digits wsX11_digits) := goodIn_app (goodIn_of _ (by decide +kernel)) ggX11_kin_X11_digits
set_option maxRecDepth 20000 in
theorem ggX11_kin_X11_goesOn : GoodIn wsX11_kin wsX11_goesOn := goodIn_r _ [33, 14, 16, 34, 35, 36, 37, 38, 39, 40, 41, 42, 43, 44, 45, 46, 47, 48, 49, 50, 51, 52, 53, 54, 55, 56, 57, 58, 59, 60, 61, 62, 63, 64, 65, 66, 67, 68, 69, 70, 71, 72] (by decide +kernel) (by decide +kernel)
set_option maxRecDepth 20000 in
theorem gX11_kin_X11_goesOn : GoodIn wsX11_kin (wsV RX11 159 RX11 yX11_goesOn wsX11_goesOn) := goodIn_app (goodIn_of _ (by decide +kernel)) ggX11_kin_X11_goesOn
theorem dX11_kin_0 : decode cX11_kin 0 = .ok (.iload_n 1, 1) := by decide +kernel
theorem dX11_kin_1 : decode cX11_kin 1 = .ok (.iconst 0, 1) := by decide +kernel
theorem dX11_kin_2 : decode cX11_kin 2 = .ok (.iconst 1, 1) := by decide +kernel
theorem dX11_kin_3 : decode cX11_kin 3 = .ok (.invokestatic 83, 3) := by decide +kernel
theorem dX11_kin_6 : decode cX11_kin 6 = .ok (.ifCond .ne 6, 3) := by decide +kernel
theorem dX11_kin_9 : decode cX11_kin 9 = .ok (.bipush (-2), 2) := by decide +kernel
theorem dX11_kin_11 : decode cX11_kin 11 = .ok (.ireturn, 1) := by decide +kernel
theorem dX11_kin_12 : decode cX11_kin 12 = .ok (.iconst (-1), 1) := by decide +kernel
theorem dX11_kin_13 : decode cX11_kin 13 = .ok (.istore_n 2, 1) := by decide +kernel
theorem dX11_kin_14 : decode cX11_kin 14 = .ok (.iconst 0, 1) := by decide +kernel
theorem dX11_kin_15 : decode cX11_kin 15 = .ok (.istore_n 3, 1) := by decide +kernel
theorem dX11_kin_16 : decode cX11_kin 16 = .ok (.aload_n 0, 1) := by decide +kernel
theorem dX11_kin_17 : decode cX11_kin 17 = .ok (.invokevirtual 150, 3) := by decide +kernel
theorem dX11_kin_20 : decode cX11_kin 20 = .ok (.iconst 1, 1) := by decide +kernel
theorem dX11_kin_21 : decode cX11_kin 21 = .ok (.istore 4, 2) := by decide +kernel
theorem dX11_kin_23 : decode cX11_kin 23 = .ok (.iload 4, 2) := by decide +kernel
theorem dX11_kin_25 : decode cX11_kin 25 = .ok (.ifCond .eq 32, 3) := by decide +kernel
theorem dX11_kin_28 : decode cX11_kin 28 = .ok (.aload_n 0, 1) := by decide +kernel
theorem dX11_kin_29 : decode cX11_kin 29 = .ok (.invokevirtual 218, 3) := by decide +kernel
theorem dX11_kin_32 : decode cX11_kin 32 = .ok (.istore 5, 2) := by decide +kernel
theorem dX11_kin_34 : decode cX11_kin 34 = .ok (.iload 5, 2) := by decide +kernel
theorem dX11_kin_36 : decode cX11_kin 36 = .ok (.iload_n 2, 1) := by decide +kernel
theorem dX11_kin_37 : decode cX11_kin 37 = .ok (.if_icmp .le 11, 3) := by decide +kernel
theorem dX11_kin_40 : decode cX11_kin 40 = .ok (.iload 5, 2) := by decide +kernel
theorem dX11_kin_42 : decode cX11_kin 42 = .ok (.istore_n 2, 1) := by decide +kernel
theorem dX11_kin_43 : decode cX11_kin 43 = .ok (.aload_n 0, 1) := by decide +kernel
theorem dX11_kin_44 : decode cX11_kin 44 = .ok (.invokevirtual 156, 3) := by decide +kernel
theorem dX11_kin_47 : decode cX11_kin 47 = .ok (.istore_n 3, 1) := by decide +kernel
theorem dX11_kin_48 : decode cX11_kin 48 = .ok (.aload_n 0, 1) := by decide +kernel
theorem dX11_kin_49 : decode cX11_kin 49 = .ok (.invokevirtual 159, 3) := by decide +kernel
theorem dX11_kin_52 : decode cX11_kin 52 = .ok (.istore 4, 2) := by decide +kernel
theorem dX11_kin_54 : decode cX11_kin 54 = .ok (.goto (-31), 3) := by decide +kernel
theorem dX11_kin_57 : decode cX11_kin 57 = .ok (.iload_n 1, 1) := by decide +kernel
theorem dX11_kin_58 : decode cX11_kin 58 = .ok (.ifCond .ne 7, 3) := by decide +kernel
theorem dX11_kin_61 : decode cX11_kin 61 = .ok (.iload_n 2, 1) := by decide +kernel
theorem dX11_kin_62 : decode cX11_kin 62 = .ok (.goto 4, 3) := by decide +kernel
theorem dX11_kin_65 : decode cX11_kin 65 = .ok (.iload_n 3, 1) := by decide +kernel
theorem dX11_kin_66 : decode cX11_kin 66 = .ok (.ireturn, 1) := by decide +kernel
set_option maxRecDepth 20000 in
theorem ggX11_shared_X11_isGrave : GoodIn wsX11_shared wsX11_isGrave := goodIn_r _ [6, 7, 8, 9, 5, 10, 14, 15, 16, 17, 18, 19, 20, 21, 22, 23, 24, 25, 26, 27, 28, 29, 30, 31, 32, 33, 34, 35, 36, 37, 38, 39, 40, 41, 42, 43, 44, 45, 46, 47, 48, 49, 50, 51, 52] (by decide +kernel) (by decide +kernel)
set_option maxRecDepth 20000 in
theorem gX11_shared_X11_isGrave : GoodIn wsX11_shared (wsV RX11 90 RX11 yX11_isGrave wsX11_isGrave) := goodIn_app (goodIn_of _ (by decide +kernel)) ggX11_shared_X11_isGrave
set_option maxRecDepth 20000 in
theorem ggX11_shared_X11_bits : GoodIn wsX11_shared wsX11_bits := goodIn_r _ [13] (by decide +kernel) (by decide +kernel)
set_option maxRecDepth 20000 in
theorem gX11_shared_X11_bits : GoodIn wsX11_shared (va_wsS RX11 181 yX11_bits wsX11_bits) := goodIn_app (goodIn_of _ (by decide +kernel)) ggX11_shared_X11_bits
theorem dX11_shared_0 : decode cX11_shared 0 = .ok (.aload_n 0, 1) := by decide +kernel
theorem dX11_shared_1 : decode cX11_shared 1 = .ok (.iload_n 1, 1) := by decide +kernel
theorem dX11_shared_2 : decode cX11_shared 2 = .ok (.invokevirtual 90, 3) := by decide +kernel
theorem dX11_shared_5 : decode cX11_shared 5 = .ok (.ifCond .eq 30, 3) := by decide +kernel
theorem dX11_shared_8 : decode cX11_shared 8 = .ok (.aload_n 0, 1) := by decide +kernel
theorem dX11_shared_9 : decode cX11_shared 9 = .ok (.iload_n 2, 1) := by decide +kernel
theorem dX11_shared_10 : decode cX11_shared 10 = .ok (.invokevirtual 90, 3) := by decide +kernel
theorem dX11_shared_13 : decode cX11_shared 13 = .ok (.ifCond .eq 22, 3) := by decide +kernel
theorem dX11_shared_16 : decode cX11_shared 16 = .ok (.aload_n 0, 1) := by decide +kernel
theorem dX11_shared_17 : decode cX11_shared 17 = .ok (.getfield 19, 3) := by decide +kernel
theorem dX11_shared_20 : decode cX11_shared 20 = .ok (.iload_n 1, 1) := by decide +kernel
theorem dX11_shared_21 : decode cX11_shared 21 = .ok (.iaload, 1) := by decide +kernel
theorem dX11_shared_22 : decode cX11_shared 22 = .ok (.aload_n 0, 1) := by decide +kernel
theorem dX11_shared_23 : decode cX11_shared 23 = .ok (.getfield 19, 3) := by decide +kernel
theorem dX11_shared_26 : decode cX11_shared 26 = .ok (.iload_n 2, 1) := by decide +kernel
theorem dX11_shared_27 : decode cX11_shared 27 = .ok (.iaload, 1) := by decide +kernel
theorem dX11_shared_28 : decode cX11_shared 28 = .ok (.iand, 1) := by decide +kernel
theorem dX11_shared_29 : decode cX11_shared 29 = .ok (.invokestatic 181, 3) := by decide +kernel
theorem dX11_shared_32 : decode cX11_shared 32 = .ok (.goto 4, 3) := by decide +kernel
theorem dX11_shared_35 : decode cX11_shared 35 = .ok (.iconst (-1), 1) := by decide +kernel
theorem dX11_shared_36 : decode cX11_shared 36 = .ok (.ireturn, 1) := by decide +kernel
set_option maxRecDepth 20000 in
theorem ggX11_chain_X11_isGrave : GoodIn wsX11_chain wsX11_isGrave := goodIn_r _ [7, 1, 8, 9, 6, 10, 26, 27, 28, 29, 30, 31, 32, 33, 34, 35, 36, 37, 38, 39, 40, 41, 42, 43, 44, 45, 46, 47, 48, 49, 50, 51, 52, 53, 54, 55, 56, 57, 58, 59, 60, 61, 62, 63, 64] (by decide +kernel) (by decide +kernel)
set_option maxRecDepth 20000 in
theorem gX11_chain_X11_isGrave : GoodIn wsX11_chain (wsV RX11 90 RX11 yX11_isGrave wsX11_isGrave) := goodIn_app (goodIn_of _ (by decide +kernel)) ggX11_chain_X11_isGrave
set_option maxRecDepth 20000 in
theorem ggX11_chain_X11_all : GoodIn wsX11_chain wsX11_all := goodIn_r _ [14, 1, 26, 27, 28, 29, 30, 31, 32, 33, 34, 35, 36, 37, 38, 39, 40, 41, 42, 43, 44, 45, 46, 47, 48, 49, 50, 51, 52, 53, 54, 55, 56, 57, 58, 59, 60, 61, 62, 63, 64] (by decide +kernel) (by decide +kernel)
set_option maxRecDepth 20000 in
theorem gX11_chain_X11_all : GoodIn wsX11_chain (wsV RX11 172 RX11 yX11_all wsX11_all) := goodIn_app (goodIn_of _ (by decide +kernel)) ggX11_chain_X11_all
set_option maxRecDepth 20000 in
theorem ggX11_chain_X11_has : GoodIn wsX11_chain wsX11_has := goodIn_r _ [17] (by decide +kernel) (by decide +kernel)
set_option maxRecDepth 20000 in
theorem gX11_chain_X11_has : GoodIn wsX11_chain (va_wsS RX11 114 yX11_has wsX11_has) := goodIn_app (goodIn_of _ (by decide +kernel)) ggX11_chain_X11_has
set_option maxRecDepth 20000 in
theorem ggX11_chain_X11_shared : GoodIn wsX11_chain wsX11_shared := goodIn_r _ [21, 22, 3, 4, 5, 6, 7, 1, 8, 9, 10, 23, 24, 25, 26, 27, 28, 29, 30, 31, 32, 33, 34, 35, 36, 37, 38, 39, 40, 41, 42, 43, 44, 45, 46, 47, 48, 49, 50, 51, 52, 53, 54, 55, 56, 57, 58, 59, 60, 61, 62, 63, 64] (by decide +kernel) (by decide +kernel)
set_option maxRecDepth 20000 in
theorem gX11_chain_X11_shared : GoodIn wsX11_chain (wsV RX11 221 RX11 yX11_shared wsX11_shared) := goodIn_app (goodIn_of _ (by decide +kernel)) ggX11_chain_X11_shared
theorem dX11_chain_0 : decode cX11_chain 0 = .ok (.aload_n 0, 1) := by decide +kernel
theorem dX11_chain_1 : decode cX11_chain 1 = .ok (.iload_n 1, 1) := by decide +kernel
theorem dX11_chain_2 : decode cX11_chain 2 = .ok (.invokevirtual 90, 3) := by decide +kernel
theorem dX11_chain_5 : decode cX11_chain 5 = .ok (.ifCond .ne 5, 3) := by decide +kernel
theorem dX11_chain_8 : decode cX11_chain 8 = .ok (.iconst (-1), 1) := by decide +kernel
theorem dX11_chain_9 : decode cX11_chain 9 = .ok (.ireturn, 1) := by decide +kernel
theorem dX11_chain_10 : decode cX11_chain 10 = .ok (.iload_n 1, 1) := by decide +kernel
theorem dX11_chain_11 : decode cX11_chain 11 = .ok (.iconst 1, 1) := by decide +kernel
theorem dX11_chain_12 : decode cX11_chain 12 = .ok (.iadd, 1) := by decide +kernel
theorem dX11_chain_13 : decode cX11_chain 13 = .ok (.istore_n 2, 1) := by decide +kernel
theorem dX11_chain_14 : decode cX11_chain 14 = .ok (.iconst 1, 1) := by decide +kernel
theorem dX11_chain_15 : decode cX11_chain 15 = .ok (.iload_n 1, 1) := by decide +kernel
theorem dX11_chain_16 : decode cX11_chain 16 = .ok (.ishl, 1) := by decide +kernel
theorem dX11_chain_17 : decode cX11_chain 17 = .ok (.istore_n 3, 1) := by decide +kernel
theorem dX11_chain_18 : decode cX11_chain 18 = .ok (.iload_n 1, 1) := by decide +kernel
theorem dX11_chain_19 : decode cX11_chain 19 = .ok (.istore 4, 2) := by decide +kernel
theorem dX11_chain_21 : decode cX11_chain 21 = .ok (.iload_n 3, 1) := by decide +kernel
theorem dX11_chain_22 : decode cX11_chain 22 = .ok (.aload_n 0, 1) := by decide +kernel
theorem dX11_chain_23 : decode cX11_chain 23 = .ok (.invokevirtual 172, 3) := by decide +kernel
theorem dX11_chain_26 : decode cX11_chain 26 = .ok (.if_icmp .eq 120, 3) := by decide +kernel
theorem dX11_chain_29 : decode cX11_chain 29 = .ok (.iconst (-1), 1) := by decide +kernel
theorem dX11_chain_30 : decode cX11_chain 30 = .ok (.istore 5, 2) := by decide +kernel
theorem dX11_chain_32 : decode cX11_chain 32 = .ok (.iconst 0, 1) := by decide +kernel
theorem dX11_chain_33 : decode cX11_chain 33 = .ok (.istore 6, 2) := by decide +kernel
theorem dX11_chain_35 : decode cX11_chain 35 = .ok (.iload 6, 2) := by decide +kernel
theorem dX11_chain_37 : decode cX11_chain 37 = .ok (.aload_n 0, 1) := by decide +kernel
theorem dX11_chain_38 : decode cX11_chain 38 = .ok (.getfield 80, 3) := by decide +kernel
theorem dX11_chain_41 : decode cX11_chain 41 = .ok (.if_icmp .ge 81, 3) := by decide +kernel
theorem dX11_chain_44 : decode cX11_chain 44 = .ok (.iload_n 3, 1) := by decide +kernel
theorem dX11_chain_45 : decode cX11_chain 45 = .ok (.iload 6, 2) := by decide +kernel
theorem dX11_chain_47 : decode cX11_chain 47 = .ok (.invokestatic 114, 3) := by decide +kernel
theorem dX11_chain_50 : decode cX11_chain 50 = .ok (.ifCond .eq 6, 3) := by decide +kernel
theorem dX11_chain_53 : decode cX11_chain 53 = .ok (.goto 63, 3) := by decide +kernel
theorem dX11_chain_56 : decode cX11_chain 56 = .ok (.iload 5, 2) := by decide +kernel
theorem dX11_chain_58 : decode cX11_chain 58 = .ok (.iconst (-1), 1) := by decide +kernel
theorem dX11_chain_59 : decode cX11_chain 59 = .ok (.if_icmp .ne 7, 3) := by decide +kernel
theorem dX11_chain_62 : decode cX11_chain 62 = .ok (.iconst 1, 1) := by decide +kernel
theorem dX11_chain_63 : decode cX11_chain 63 = .ok (.goto 20, 3) := by decide +kernel
theorem dX11_chain_66 : decode cX11_chain 66 = .ok (.aload_n 0, 1) := by decide +kernel
theorem dX11_chain_67 : decode cX11_chain 67 = .ok (.iload 4, 2) := by decide +kernel
theorem dX11_chain_69 : decode cX11_chain 69 = .ok (.iload 6, 2) := by decide +kernel
theorem dX11_chain_71 : decode cX11_chain 71 = .ok (.invokevirtual 221, 3) := by decide +kernel
theorem dX11_chain_74 : decode cX11_chain 74 = .ok (.aload_n 0, 1) := by decide +kernel
theorem dX11_chain_75 : decode cX11_chain 75 = .ok (.iload 4, 2) := by decide +kernel
theorem dX11_chain_77 : decode cX11_chain 77 = .ok (.iload 5, 2) := by decide +kernel
theorem dX11_chain_79 : decode cX11_chain 79 = .ok (.invokevirtual 221, 3) := by decide +kernel
theorem dX11_chain_82 : decode cX11_chain 82 = .ok (.isub, 1) := by decide +kernel
theorem dX11_chain_83 : decode cX11_chain 83 = .ok (.istore 7, 2) := by decide +kernel
theorem dX11_chain_85 : decode cX11_chain 85 = .ok (.iload 7, 2) := by decide +kernel
theorem dX11_chain_87 : decode cX11_chain 87 = .ok (.ifCond .gt 25, 3) := by decide +kernel
theorem dX11_chain_90 : decode cX11_chain 90 = .ok (.iload 7, 2) := by decide +kernel
theorem dX11_chain_92 : decode cX11_chain 92 = .ok (.ifCond .ne 24, 3) := by decide +kernel
theorem dX11_chain_95 : decode cX11_chain 95 = .ok (.aload_n 0, 1) := by decide +kernel
theorem dX11_chain_96 : decode cX11_chain 96 = .ok (.getfield 15, 3) := by decide +kernel
theorem dX11_chain_99 : decode cX11_chain 99 = .ok (.iload 6, 2) := by decide +kernel
theorem dX11_chain_101 : decode cX11_chain 101 = .ok (.iaload, 1) := by decide +kernel
theorem dX11_chain_102 : decode cX11_chain 102 = .ok (.aload_n 0, 1) := by decide +kernel
theorem dX11_chain_103 : decode cX11_chain 103 = .ok (.getfield 15, 3) := by decide +kernel
theorem dX11_chain_106 : decode cX11_chain 106 = .ok (.iload 5, 2) := by decide +kernel
theorem dX11_chain_108 : decode cX11_chain 108 = .ok (.iaload, 1) := by decide +kernel
theorem dX11_chain_109 : decode cX11_chain 109 = .ok (.if_icmp .ge 7, 3) := by decide +kernel
theorem dX11_chain_112 : decode cX11_chain 112 = .ok (.iload 6, 2) := by decide +kernel
theorem dX11_chain_114 : decode cX11_chain 114 = .ok (.istore 5, 2) := by decide +kernel
theorem dX11_chain_116 : decode cX11_chain 116 = .ok (.iinc 6 1, 3) := by decide +kernel
theorem dX11_chain_119 : decode cX11_chain 119 = .ok (.goto (-84), 3) := by decide +kernel
theorem dX11_chain_122 : decode cX11_chain 122 = .ok (.bipush 10, 2) := by decide +kernel
theorem dX11_chain_124 : decode cX11_chain 124 = .ok (.iload_n 2, 1) := by decide +kernel
theorem dX11_chain_125 : decode cX11_chain 125 = .ok (.imul, 1) := by decide +kernel
theorem dX11_chain_126 : decode cX11_chain 126 = .ok (.iload 5, 2) := by decide +kernel
theorem dX11_chain_128 : decode cX11_chain 128 = .ok (.iadd, 1) := by decide +kernel
theorem dX11_chain_129 : decode cX11_chain 129 = .ok (.iconst 1, 1) := by decide +kernel
theorem dX11_chain_130 : decode cX11_chain 130 = .ok (.iadd, 1) := by decide +kernel
theorem dX11_chain_131 : decode cX11_chain 131 = .ok (.istore_n 2, 1) := by decide +kernel
theorem dX11_chain_132 : decode cX11_chain 132 = .ok (.iload_n 3, 1) := by decide +kernel
theorem dX11_chain_133 : decode cX11_chain 133 = .ok (.iconst 1, 1) := by decide +kernel
theorem dX11_chain_134 : decode cX11_chain 134 = .ok (.iload 5, 2) := by decide +kernel
theorem dX11_chain_136 : decode cX11_chain 136 = .ok (.ishl, 1) := by decide +kernel
theorem dX11_chain_137 : decode cX11_chain 137 = .ok (.ior, 1) := by decide +kernel
theorem dX11_chain_138 : decode cX11_chain 138 = .ok (.istore_n 3, 1) := by decide +kernel
theorem dX11_chain_139 : decode cX11_chain 139 = .ok (.iload 5, 2) := by decide +kernel
theorem dX11_chain_141 : decode cX11_chain 141 = .ok (.istore 4, 2) := by decide +kernel
theorem dX11_chain_143 : decode cX11_chain 143 = .ok (.goto (-122), 3) := by decide +kernel
theorem dX11_chain_146 : decode cX11_chain 146 = .ok (.iload_n 2, 1) := by decide +kernel
theorem dX11_chain_147 : decode cX11_chain 147 = .ok (.ireturn, 1) := by decide +kernel
set_option maxRecDepth 20000 in
theorem ggX11_keyOf_X11_bits : GoodIn wsX11_keyOf wsX11_bits := goodIn_r _ [6] (by decide +kernel) (by decide +kernel)
set_option maxRecDepth 20000 in
theorem gX11_keyOf_X11_bits : GoodIn wsX11_keyOf (va_wsS RX11 181 yX11_bits wsX11_bits) := goodIn_app (goodIn_of _ (by decide +kernel)) ggX11_keyOf_X11_bits
set_option maxRecDepth 20000 in
theorem ggX11_keyOf_X11_sharers : GoodIn wsX11_keyOf wsX11_sharers := goodIn_r _ [10, 11, 2, 12, 13, 14, 15, 16, 17, 18, 19, 20, 21, 22, 23, 24, 25, 26, 27, 28, 29, 30, 31, 32, 33, 34, 35, 36, 37, 38, 39, 40, 41, 42, 43, 44, 45, 46, 47, 48, 49, 50] (by decide +kernel) (by decide +kernel)
set_option maxRecDepth 20000 in
theorem gX11_keyOf_X11_sharers : GoodIn wsX11_keyOf (wsV RX11 101 RX11 yX11_sharers wsX11_sharers) := goodIn_app (goodIn_of _ (by decide +kernel)) ggX11_keyOf_X11_sharers
theorem dX11_keyOf_0 : decode cX11_keyOf 0 = .ok (.iload_n 1, 1) := by decide +kernel
theorem dX11_keyOf_1 : decode cX11_keyOf 1 = .ok (.ifCond .ne 12, 3) := by decide +kernel
theorem dX11_keyOf_4 : decode cX11_keyOf 4 = .ok (.aload_n 0, 1) := by decide +kernel
theorem dX11_keyOf_5 : decode cX11_keyOf 5 = .ok (.getfield 15, 3) := by decide +kernel
theorem dX11_keyOf_8 : decode cX11_keyOf 8 = .ok (.iload_n 2, 1) := by decide +kernel
theorem dX11_keyOf_9 : decode cX11_keyOf 9 = .ok (.iaload, 1) := by decide +kernel
theorem dX11_keyOf_10 : decode cX11_keyOf 10 = .ok (.goto 41, 3) := by decide +kernel
theorem dX11_keyOf_13 : decode cX11_keyOf 13 = .ok (.iload_n 1, 1) := by decide +kernel
theorem dX11_keyOf_14 : decode cX11_keyOf 14 = .ok (.iconst 1, 1) := by decide +kernel
theorem dX11_keyOf_15 : decode cX11_keyOf 15 = .ok (.if_icmp .ne 16, 3) := by decide +kernel
theorem dX11_keyOf_18 : decode cX11_keyOf 18 = .ok (.aload_n 0, 1) := by decide +kernel
theorem dX11_keyOf_19 : decode cX11_keyOf 19 = .ok (.getfield 19, 3) := by decide +kernel
theorem dX11_keyOf_22 : decode cX11_keyOf 22 = .ok (.iload_n 2, 1) := by decide +kernel
theorem dX11_keyOf_23 : decode cX11_keyOf 23 = .ok (.iaload, 1) := by decide +kernel
theorem dX11_keyOf_24 : decode cX11_keyOf 24 = .ok (.invokestatic 181, 3) := by decide +kernel
theorem dX11_keyOf_27 : decode cX11_keyOf 27 = .ok (.ineg, 1) := by decide +kernel
theorem dX11_keyOf_28 : decode cX11_keyOf 28 = .ok (.goto 23, 3) := by decide +kernel
theorem dX11_keyOf_31 : decode cX11_keyOf 31 = .ok (.iload_n 1, 1) := by decide +kernel
theorem dX11_keyOf_32 : decode cX11_keyOf 32 = .ok (.iconst 2, 1) := by decide +kernel
theorem dX11_keyOf_33 : decode cX11_keyOf 33 = .ok (.if_icmp .ne 12, 3) := by decide +kernel
theorem dX11_keyOf_36 : decode cX11_keyOf 36 = .ok (.aload_n 0, 1) := by decide +kernel
theorem dX11_keyOf_37 : decode cX11_keyOf 37 = .ok (.iload_n 2, 1) := by decide +kernel
theorem dX11_keyOf_38 : decode cX11_keyOf 38 = .ok (.invokevirtual 101, 3) := by decide +kernel
theorem dX11_keyOf_41 : decode cX11_keyOf 41 = .ok (.ineg, 1) := by decide +kernel
theorem dX11_keyOf_42 : decode cX11_keyOf 42 = .ok (.goto 9, 3) := by decide +kernel
theorem dX11_keyOf_45 : decode cX11_keyOf 45 = .ok (.aload_n 0, 1) := by decide +kernel
theorem dX11_keyOf_46 : decode cX11_keyOf 46 = .ok (.getfield 19, 3) := by decide +kernel
theorem dX11_keyOf_49 : decode cX11_keyOf 49 = .ok (.iload_n 2, 1) := by decide +kernel
theorem dX11_keyOf_50 : decode cX11_keyOf 50 = .ok (.iaload, 1) := by decide +kernel
theorem dX11_keyOf_51 : decode cX11_keyOf 51 = .ok (.ireturn, 1) := by decide +kernel
set_option maxRecDepth 20000 in
theorem ggX11_walk_X11_in : GoodIn wsX11_walk wsX11_in := goodIn_r _ [5] (by decide +kernel) (by decide +kernel)
set_option maxRecDepth 20000 in
theorem gX11_walk_X11_in : GoodIn wsX11_walk (va_wsS RX11 83 yX11_in wsX11_in) := goodIn_app (goodIn_of _ (by decide +kernel)) ggX11_walk_X11_in
set_option maxRecDepth 20000 in
theorem ggX11_walk_X11_has : GoodIn wsX11_walk wsX11_has := goodIn_r _ [8] (by decide +kernel) (by decide +kernel)
set_option maxRecDepth 20000 in
theorem gX11_walk_X11_has : GoodIn wsX11_walk (va_wsS RX11 114 yX11_has wsX11_has) := goodIn_app (goodIn_of _ (by decide +kernel)) ggX11_walk_X11_has
set_option maxRecDepth 20000 in
theorem ggX11_walk_X11_keyOf : GoodIn wsX11_walk wsX11_keyOf := goodIn_r _ [12, 13, 14, 15, 16, 4, 17, 18, 19, 20, 21, 1, 22, 23, 24, 25, 26, 27, 28, 29, 30, 31, 32, 33, 34, 35, 36, 37, 38, 39, 40, 41, 42, 43, 44, 45, 46, 47, 48, 49, 50, 51, 52, 53, 54, 55, 56, 57, 58, 59, 60] (by decide +kernel) (by decide +kernel)
set_option maxRecDepth 20000 in
theorem gX11_walk_X11_keyOf : GoodIn wsX11_walk (wsV RX11 224 RX11 yX11_keyOf wsX11_keyOf) := goodIn_app (goodIn_of _ (by decide +kernel)) ggX11_walk_X11_keyOf
theorem dX11_walk_0 : decode cX11_walk 0 = .ok (.iload_n 1, 1) := by decide +kernel
theorem dX11_walk_1 : decode cX11_walk 1 = .ok (.iconst 0, 1) := by decide +kernel
theorem dX11_walk_2 : decode cX11_walk 2 = .ok (.iconst 3, 1) := by decide +kernel
theorem dX11_walk_3 : decode cX11_walk 3 = .ok (.invokestatic 83, 3) := by decide +kernel
theorem dX11_walk_6 : decode cX11_walk 6 = .ok (.ifCond .ne 6, 3) := by decide +kernel
theorem dX11_walk_9 : decode cX11_walk 9 = .ok (.bipush (-2), 2) := by decide +kernel
theorem dX11_walk_11 : decode cX11_walk 11 = .ok (.ireturn, 1) := by decide +kernel
theorem dX11_walk_12 : decode cX11_walk 12 = .ok (.iconst 0, 1) := by decide +kernel
theorem dX11_walk_13 : decode cX11_walk 13 = .ok (.istore_n 2, 1) := by decide +kernel
theorem dX11_walk_14 : decode cX11_walk 14 = .ok (.iconst 0, 1) := by decide +kernel
theorem dX11_walk_15 : decode cX11_walk 15 = .ok (.istore_n 3, 1) := by decide +kernel
theorem dX11_walk_16 : decode cX11_walk 16 = .ok (.iconst 0, 1) := by decide +kernel
theorem dX11_walk_17 : decode cX11_walk 17 = .ok (.istore 4, 2) := by decide +kernel
theorem dX11_walk_19 : decode cX11_walk 19 = .ok (.iload 4, 2) := by decide +kernel
theorem dX11_walk_21 : decode cX11_walk 21 = .ok (.aload_n 0, 1) := by decide +kernel
theorem dX11_walk_22 : decode cX11_walk 22 = .ok (.getfield 80, 3) := by decide +kernel
theorem dX11_walk_25 : decode cX11_walk 25 = .ok (.if_icmp .ge 83, 3) := by decide +kernel
theorem dX11_walk_28 : decode cX11_walk 28 = .ok (.iconst (-1), 1) := by decide +kernel
theorem dX11_walk_29 : decode cX11_walk 29 = .ok (.istore 5, 2) := by decide +kernel
theorem dX11_walk_31 : decode cX11_walk 31 = .ok (.iconst 0, 1) := by decide +kernel
theorem dX11_walk_32 : decode cX11_walk 32 = .ok (.istore 6, 2) := by decide +kernel
theorem dX11_walk_34 : decode cX11_walk 34 = .ok (.iload 6, 2) := by decide +kernel
theorem dX11_walk_36 : decode cX11_walk 36 = .ok (.aload_n 0, 1) := by decide +kernel
theorem dX11_walk_37 : decode cX11_walk 37 = .ok (.getfield 80, 3) := by decide +kernel
theorem dX11_walk_40 : decode cX11_walk 40 = .ok (.if_icmp .ge 45, 3) := by decide +kernel
theorem dX11_walk_43 : decode cX11_walk 43 = .ok (.iload_n 3, 1) := by decide +kernel
theorem dX11_walk_44 : decode cX11_walk 44 = .ok (.iload 6, 2) := by decide +kernel
theorem dX11_walk_46 : decode cX11_walk 46 = .ok (.invokestatic 114, 3) := by decide +kernel
theorem dX11_walk_49 : decode cX11_walk 49 = .ok (.ifCond .ne 30, 3) := by decide +kernel
theorem dX11_walk_52 : decode cX11_walk 52 = .ok (.iload 5, 2) := by decide +kernel
theorem dX11_walk_54 : decode cX11_walk 54 = .ok (.iconst (-1), 1) := by decide +kernel
theorem dX11_walk_55 : decode cX11_walk 55 = .ok (.if_icmp .eq 20, 3) := by decide +kernel
theorem dX11_walk_58 : decode cX11_walk 58 = .ok (.aload_n 0, 1) := by decide +kernel
theorem dX11_walk_59 : decode cX11_walk 59 = .ok (.iload_n 1, 1) := by decide +kernel
theorem dX11_walk_60 : decode cX11_walk 60 = .ok (.iload 6, 2) := by decide +kernel
theorem dX11_walk_62 : decode cX11_walk 62 = .ok (.invokevirtual 224, 3) := by decide +kernel
theorem dX11_walk_65 : decode cX11_walk 65 = .ok (.aload_n 0, 1) := by decide +kernel
theorem dX11_walk_66 : decode cX11_walk 66 = .ok (.iload_n 1, 1) := by decide +kernel
theorem dX11_walk_67 : decode cX11_walk 67 = .ok (.iload 5, 2) := by decide +kernel
theorem dX11_walk_69 : decode cX11_walk 69 = .ok (.invokevirtual 224, 3) := by decide +kernel
theorem dX11_walk_72 : decode cX11_walk 72 = .ok (.if_icmp .ge 7, 3) := by decide +kernel
theorem dX11_walk_75 : decode cX11_walk 75 = .ok (.iload 6, 2) := by decide +kernel
theorem dX11_walk_77 : decode cX11_walk 77 = .ok (.istore 5, 2) := by decide +kernel
theorem dX11_walk_79 : decode cX11_walk 79 = .ok (.iinc 6 1, 3) := by decide +kernel
theorem dX11_walk_82 : decode cX11_walk 82 = .ok (.goto (-48), 3) := by decide +kernel
theorem dX11_walk_85 : decode cX11_walk 85 = .ok (.bipush 10, 2) := by decide +kernel
theorem dX11_walk_87 : decode cX11_walk 87 = .ok (.iload_n 2, 1) := by decide +kernel
theorem dX11_walk_88 : decode cX11_walk 88 = .ok (.imul, 1) := by decide +kernel
theorem dX11_walk_89 : decode cX11_walk 89 = .ok (.iload 5, 2) := by decide +kernel
theorem dX11_walk_91 : decode cX11_walk 91 = .ok (.iadd, 1) := by decide +kernel
theorem dX11_walk_92 : decode cX11_walk 92 = .ok (.iconst 1, 1) := by decide +kernel
theorem dX11_walk_93 : decode cX11_walk 93 = .ok (.iadd, 1) := by decide +kernel
theorem dX11_walk_94 : decode cX11_walk 94 = .ok (.istore_n 2, 1) := by decide +kernel
theorem dX11_walk_95 : decode cX11_walk 95 = .ok (.iload_n 3, 1) := by decide +kernel
theorem dX11_walk_96 : decode cX11_walk 96 = .ok (.iconst 1, 1) := by decide +kernel
theorem dX11_walk_97 : decode cX11_walk 97 = .ok (.iload 5, 2) := by decide +kernel
theorem dX11_walk_99 : decode cX11_walk 99 = .ok (.ishl, 1) := by decide +kernel
theorem dX11_walk_100 : decode cX11_walk 100 = .ok (.ior, 1) := by decide +kernel
theorem dX11_walk_101 : decode cX11_walk 101 = .ok (.istore_n 3, 1) := by decide +kernel
theorem dX11_walk_102 : decode cX11_walk 102 = .ok (.iinc 4 1, 3) := by decide +kernel
theorem dX11_walk_105 : decode cX11_walk 105 = .ok (.goto (-86), 3) := by decide +kernel
theorem dX11_walk_108 : decode cX11_walk 108 = .ok (.iload_n 2, 1) := by decide +kernel
theorem dX11_walk_109 : decode cX11_walk 109 = .ok (.ireturn, 1) := by decide +kernel
set_option maxRecDepth 20000 in
theorem ggX11_turned_X11_isOrder : GoodIn wsX11_turned wsX11_isOrder := goodIn_r _ [7, 8, 1, 9, 10, 2, 11, 12, 13, 6, 14, 15, 16, 17, 18, 19, 20, 21, 22, 23, 24, 25, 26, 27, 28, 29, 30, 31, 32, 33, 34, 35, 36, 37, 38, 39, 40, 41, 42, 43, 44, 45, 46, 47, 48, 49, 50, 51, 52, 53, 54, 55, 56, 57, 58, 59] (by decide +kernel) (by decide +kernel)
set_option maxRecDepth 20000 in
theorem gX11_turned_X11_isOrder : GoodIn wsX11_turned (wsV RX11 215 RX11 yX11_isOrder wsX11_isOrder) := goodIn_app (goodIn_of _ (by decide +kernel)) ggX11_turned_X11_isOrder
theorem dX11_turned_0 : decode cX11_turned 0 = .ok (.aload_n 0, 1) := by decide +kernel
theorem dX11_turned_1 : decode cX11_turned 1 = .ok (.iload_n 1, 1) := by decide +kernel
theorem dX11_turned_2 : decode cX11_turned 2 = .ok (.invokevirtual 215, 3) := by decide +kernel
theorem dX11_turned_5 : decode cX11_turned 5 = .ok (.ifCond .ne 6, 3) := by decide +kernel
theorem dX11_turned_8 : decode cX11_turned 8 = .ok (.bipush (-2), 2) := by decide +kernel
theorem dX11_turned_10 : decode cX11_turned 10 = .ok (.ireturn, 1) := by decide +kernel
theorem dX11_turned_11 : decode cX11_turned 11 = .ok (.iconst 0, 1) := by decide +kernel
theorem dX11_turned_12 : decode cX11_turned 12 = .ok (.istore_n 2, 1) := by decide +kernel
theorem dX11_turned_13 : decode cX11_turned 13 = .ok (.aload_n 0, 1) := by decide +kernel
theorem dX11_turned_14 : decode cX11_turned 14 = .ok (.getfield 134, 3) := by decide +kernel
theorem dX11_turned_17 : decode cX11_turned 17 = .ok (.iconst 1, 1) := by decide +kernel
theorem dX11_turned_18 : decode cX11_turned 18 = .ok (.isub, 1) := by decide +kernel
theorem dX11_turned_19 : decode cX11_turned 19 = .ok (.istore_n 3, 1) := by decide +kernel
theorem dX11_turned_20 : decode cX11_turned 20 = .ok (.iload_n 3, 1) := by decide +kernel
theorem dX11_turned_21 : decode cX11_turned 21 = .ok (.ifCond .lt 23, 3) := by decide +kernel
theorem dX11_turned_24 : decode cX11_turned 24 = .ok (.bipush 10, 2) := by decide +kernel
theorem dX11_turned_26 : decode cX11_turned 26 = .ok (.iload_n 2, 1) := by decide +kernel
theorem dX11_turned_27 : decode cX11_turned 27 = .ok (.imul, 1) := by decide +kernel
theorem dX11_turned_28 : decode cX11_turned 28 = .ok (.aload_n 0, 1) := by decide +kernel
theorem dX11_turned_29 : decode cX11_turned 29 = .ok (.getfield 25, 3) := by decide +kernel
theorem dX11_turned_32 : decode cX11_turned 32 = .ok (.iload_n 3, 1) := by decide +kernel
theorem dX11_turned_33 : decode cX11_turned 33 = .ok (.iaload, 1) := by decide +kernel
theorem dX11_turned_34 : decode cX11_turned 34 = .ok (.iadd, 1) := by decide +kernel
theorem dX11_turned_35 : decode cX11_turned 35 = .ok (.iconst 1, 1) := by decide +kernel
theorem dX11_turned_36 : decode cX11_turned 36 = .ok (.iadd, 1) := by decide +kernel
theorem dX11_turned_37 : decode cX11_turned 37 = .ok (.istore_n 2, 1) := by decide +kernel
theorem dX11_turned_38 : decode cX11_turned 38 = .ok (.iinc 3 (-1), 3) := by decide +kernel
theorem dX11_turned_41 : decode cX11_turned 41 = .ok (.goto (-21), 3) := by decide +kernel
theorem dX11_turned_44 : decode cX11_turned 44 = .ok (.iload_n 2, 1) := by decide +kernel
theorem dX11_turned_45 : decode cX11_turned 45 = .ok (.ireturn, 1) := by decide +kernel
set_option maxRecDepth 20000 in
theorem ggX11_rank_X11_isOrder : GoodIn wsX11_rank wsX11_isOrder := goodIn_r _ [7, 8, 9, 10, 11, 12, 13, 14, 15, 6, 16, 17, 18, 19, 20, 21, 22, 52, 53, 54, 55, 56, 57, 58, 59, 60, 61, 62, 63, 64, 65, 66, 67, 68, 69, 70, 71, 72, 73, 74, 75, 76, 77, 78, 79, 80, 81, 82, 83, 84, 85, 86, 87, 88, 89, 90] (by decide +kernel) (by decide +kernel)
set_option maxRecDepth 20000 in
theorem gX11_rank_X11_isOrder : GoodIn wsX11_rank (wsV RX11 215 RX11 yX11_isOrder wsX11_isOrder) := goodIn_app (goodIn_of _ (by decide +kernel)) ggX11_rank_X11_isOrder
set_option maxRecDepth 20000 in
theorem ggX11_rank_X11_gaplessOnes : GoodIn wsX11_rank wsX11_gaplessOnes := goodIn_r _ [26, 1, 2, 27, 28, 29, 6, 30, 10, 31, 32, 33, 34, 9, 8, 12, 11, 35, 36, 37, 38, 20, 21, 22, 39, 40, 41, 42, 43, 44, 45, 46, 47, 48, 49, 50, 51, 52, 53, 54, 55, 56, 57, 58, 59, 60, 61, 62, 63, 64, 65, 66, 67, 68, 69, 70, 71, 72, 73, 74, 75, 76, 77, 78, 79, 80, 81, 82, 83, 84, 85, 86, 87, 88, 89, 90] (by decide +kernel) (by decide +kernel)
set_option maxRecDepth 20000 in
theorem gX11_rank_X11_gaplessOnes : GoodIn wsX11_rank (wsV RX11 163 RX11 yX11_gaplessOnes wsX11_gaplessOnes) := goodIn_app (goodIn_of _ (by decide +kernel)) ggX11_rank_X11_gaplessOnes
theorem dX11_rank_0 : decode cX11_rank 0 = .ok (.aload_n 0, 1) := by decide +kernel
theorem dX11_rank_1 : decode cX11_rank 1 = .ok (.iload_n 1, 1) := by decide +kernel
theorem dX11_rank_2 : decode cX11_rank 2 = .ok (.invokevirtual 215, 3) := by decide +kernel
theorem dX11_rank_5 : decode cX11_rank 5 = .ok (.ifCond .ne 6, 3) := by decide +kernel
theorem dX11_rank_8 : decode cX11_rank 8 = .ok (.bipush (-2), 2) := by decide +kernel
theorem dX11_rank_10 : decode cX11_rank 10 = .ok (.ireturn, 1) := by decide +kernel
theorem dX11_rank_11 : decode cX11_rank 11 = .ok (.aload_n 0, 1) := by decide +kernel
theorem dX11_rank_12 : decode cX11_rank 12 = .ok (.invokevirtual 163, 3) := by decide +kernel
theorem dX11_rank_15 : decode cX11_rank 15 = .ok (.iconst 0, 1) := by decide +kernel
theorem dX11_rank_16 : decode cX11_rank 16 = .ok (.istore_n 2, 1) := by decide +kernel
theorem dX11_rank_17 : decode cX11_rank 17 = .ok (.iload_n 2, 1) := by decide +kernel
theorem dX11_rank_18 : decode cX11_rank 18 = .ok (.aload_n 0, 1) := by decide +kernel
theorem dX11_rank_19 : decode cX11_rank 19 = .ok (.getfield 147, 3) := by decide +kernel
theorem dX11_rank_22 : decode cX11_rank 22 = .ok (.if_icmp .ge 19, 3) := by decide +kernel
theorem dX11_rank_25 : decode cX11_rank 25 = .ok (.aload_n 0, 1) := by decide +kernel
theorem dX11_rank_26 : decode cX11_rank 26 = .ok (.getfield 28, 3) := by decide +kernel
theorem dX11_rank_29 : decode cX11_rank 29 = .ok (.iload_n 2, 1) := by decide +kernel
theorem dX11_rank_30 : decode cX11_rank 30 = .ok (.iaload, 1) := by decide +kernel
theorem dX11_rank_31 : decode cX11_rank 31 = .ok (.iload_n 1, 1) := by decide +kernel
theorem dX11_rank_32 : decode cX11_rank 32 = .ok (.if_icmp .ge 9, 3) := by decide +kernel
theorem dX11_rank_35 : decode cX11_rank 35 = .ok (.iinc 2 1, 3) := by decide +kernel
theorem dX11_rank_38 : decode cX11_rank 38 = .ok (.goto (-21), 3) := by decide +kernel
theorem dX11_rank_41 : decode cX11_rank 41 = .ok (.iload_n 2, 1) := by decide +kernel
theorem dX11_rank_42 : decode cX11_rank 42 = .ok (.ireturn, 1) := by decide +kernel
set_option maxRecDepth 20000 in
theorem ggX11_swap_X11_isOrder : GoodIn wsX11_swap wsX11_isOrder := goodIn_r _ [7, 8, 1, 9, 10, 2, 11, 12, 13, 6, 14, 15, 16, 17, 18, 19, 20, 25, 26, 27, 28, 29, 30, 31, 32, 33, 34, 35, 36, 37, 38, 39, 40, 41, 42, 43, 44, 45, 46, 47, 48, 49, 50, 51, 52, 53, 54, 55, 56, 57, 58, 59, 60, 61, 62, 63] (by decide +kernel) (by decide +kernel)
set_option maxRecDepth 20000 in
theorem gX11_swap_X11_isOrder : GoodIn wsX11_swap (wsV RX11 215 RX11 yX11_isOrder wsX11_isOrder) := goodIn_app (goodIn_of _ (by decide +kernel)) ggX11_swap_X11_isOrder
set_option maxRecDepth 20000 in
theorem ggX11_swap_X11_isGrave : GoodIn wsX11_swap wsX11_isGrave := goodIn_r _ [14, 8, 15, 16, 6, 17, 25, 26, 27, 28, 29, 30, 31, 32, 33, 34, 35, 36, 37, 38, 39, 40, 41, 42, 43, 44, 45, 46, 47, 48, 49, 50, 51, 52, 53, 54, 55, 56, 57, 58, 59, 60, 61, 62, 63] (by decide +kernel) (by decide +kernel)
set_option maxRecDepth 20000 in
theorem gX11_swap_X11_isGrave : GoodIn wsX11_swap (wsV RX11 90 RX11 yX11_isGrave wsX11_isGrave) := goodIn_app (goodIn_of _ (by decide +kernel)) ggX11_swap_X11_isGrave
set_option maxRecDepth 20000 in
theorem ggX11_swap_X11_digits : GoodIn wsX11_swap wsX11_digits := goodIn_r _ [24, 1, 2, 25, 26, 27, 28, 29, 30, 31, 32, 33, 34, 35, 36, 37, 38, 39, 40, 41, 42, 43, 44, 45, 46, 47, 48, 49, 50, 51, 52, 53, 54, 55, 56, 57, 58, 59, 60, 61, 62, 63] (by decide +kernel) (by decide +kernel)
set_option maxRecDepth 20000 in
theorem gX11_swap_X11_digits : GoodIn wsX11_swap (wsV RX11 156 RX11 yX11_digits wsX11_digits) := goodIn_app (goodIn_of _ (by decide +kernel)) ggX11_swap_X11_digits
theorem dX11_swap_0 : decode cX11_swap 0 = .ok (.aload_n 0, 1) := by decide +kernel
theorem dX11_swap_1 : decode cX11_swap 1 = .ok (.iload_n 1, 1) := by decide +kernel
theorem dX11_swap_2 : decode cX11_swap 2 = .ok (.invokevirtual 215, 3) := by decide +kernel
theorem dX11_swap_5 : decode cX11_swap 5 = .ok (.ifCond .ne 6, 3) := by decide +kernel
theorem dX11_swap_8 : decode cX11_swap 8 = .ok (.bipush (-2), 2) := by decide +kernel
theorem dX11_swap_10 : decode cX11_swap 10 = .ok (.ireturn, 1) := by decide +kernel
theorem dX11_swap_11 : decode cX11_swap 11 = .ok (.aload_n 0, 1) := by decide +kernel
theorem dX11_swap_12 : decode cX11_swap 12 = .ok (.iload_n 2, 1) := by decide +kernel
theorem dX11_swap_13 : decode cX11_swap 13 = .ok (.invokevirtual 90, 3) := by decide +kernel
theorem dX11_swap_16 : decode cX11_swap 16 = .ok (.ifCond .eq 11, 3) := by decide +kernel
theorem dX11_swap_19 : decode cX11_swap 19 = .ok (.aload_n 0, 1) := by decide +kernel
theorem dX11_swap_20 : decode cX11_swap 20 = .ok (.iload_n 3, 1) := by decide +kernel
theorem dX11_swap_21 : decode cX11_swap 21 = .ok (.invokevirtual 90, 3) := by decide +kernel
theorem dX11_swap_24 : decode cX11_swap 24 = .ok (.ifCond .ne 5, 3) := by decide +kernel
theorem dX11_swap_27 : decode cX11_swap 27 = .ok (.iconst (-1), 1) := by decide +kernel
theorem dX11_swap_28 : decode cX11_swap 28 = .ok (.ireturn, 1) := by decide +kernel
theorem dX11_swap_29 : decode cX11_swap 29 = .ok (.iconst 0, 1) := by decide +kernel
theorem dX11_swap_30 : decode cX11_swap 30 = .ok (.istore 4, 2) := by decide +kernel
theorem dX11_swap_32 : decode cX11_swap 32 = .ok (.iload 4, 2) := by decide +kernel
theorem dX11_swap_34 : decode cX11_swap 34 = .ok (.aload_n 0, 1) := by decide +kernel
theorem dX11_swap_35 : decode cX11_swap 35 = .ok (.getfield 134, 3) := by decide +kernel
theorem dX11_swap_38 : decode cX11_swap 38 = .ok (.if_icmp .ge 53, 3) := by decide +kernel
theorem dX11_swap_41 : decode cX11_swap 41 = .ok (.aload_n 0, 1) := by decide +kernel
theorem dX11_swap_42 : decode cX11_swap 42 = .ok (.getfield 25, 3) := by decide +kernel
theorem dX11_swap_45 : decode cX11_swap 45 = .ok (.iload 4, 2) := by decide +kernel
theorem dX11_swap_47 : decode cX11_swap 47 = .ok (.aload_n 0, 1) := by decide +kernel
theorem dX11_swap_48 : decode cX11_swap 48 = .ok (.getfield 25, 3) := by decide +kernel
theorem dX11_swap_51 : decode cX11_swap 51 = .ok (.iload 4, 2) := by decide +kernel
theorem dX11_swap_53 : decode cX11_swap 53 = .ok (.iaload, 1) := by decide +kernel
theorem dX11_swap_54 : decode cX11_swap 54 = .ok (.iload_n 2, 1) := by decide +kernel
theorem dX11_swap_55 : decode cX11_swap 55 = .ok (.if_icmp .ne 7, 3) := by decide +kernel
theorem dX11_swap_58 : decode cX11_swap 58 = .ok (.iload_n 3, 1) := by decide +kernel
theorem dX11_swap_59 : decode cX11_swap 59 = .ok (.goto 25, 3) := by decide +kernel
theorem dX11_swap_62 : decode cX11_swap 62 = .ok (.aload_n 0, 1) := by decide +kernel
theorem dX11_swap_63 : decode cX11_swap 63 = .ok (.getfield 25, 3) := by decide +kernel
theorem dX11_swap_66 : decode cX11_swap 66 = .ok (.iload 4, 2) := by decide +kernel
theorem dX11_swap_68 : decode cX11_swap 68 = .ok (.iaload, 1) := by decide +kernel
theorem dX11_swap_69 : decode cX11_swap 69 = .ok (.iload_n 3, 1) := by decide +kernel
theorem dX11_swap_70 : decode cX11_swap 70 = .ok (.if_icmp .ne 7, 3) := by decide +kernel
theorem dX11_swap_73 : decode cX11_swap 73 = .ok (.iload_n 2, 1) := by decide +kernel
theorem dX11_swap_74 : decode cX11_swap 74 = .ok (.goto 10, 3) := by decide +kernel
theorem dX11_swap_77 : decode cX11_swap 77 = .ok (.aload_n 0, 1) := by decide +kernel
theorem dX11_swap_78 : decode cX11_swap 78 = .ok (.getfield 25, 3) := by decide +kernel
theorem dX11_swap_81 : decode cX11_swap 81 = .ok (.iload 4, 2) := by decide +kernel
theorem dX11_swap_83 : decode cX11_swap 83 = .ok (.iaload, 1) := by decide +kernel
theorem dX11_swap_84 : decode cX11_swap 84 = .ok (.iastore, 1) := by decide +kernel
theorem dX11_swap_85 : decode cX11_swap 85 = .ok (.iinc 4 1, 3) := by decide +kernel
theorem dX11_swap_88 : decode cX11_swap 88 = .ok (.goto (-56), 3) := by decide +kernel
theorem dX11_swap_91 : decode cX11_swap 91 = .ok (.aload_n 0, 1) := by decide +kernel
theorem dX11_swap_92 : decode cX11_swap 92 = .ok (.invokevirtual 156, 3) := by decide +kernel
theorem dX11_swap_95 : decode cX11_swap 95 = .ok (.ireturn, 1) := by decide +kernel
set_option maxRecDepth 20000 in
theorem ggX11_feed_X11_in : GoodIn wsX11_feed wsX11_in := goodIn_r _ [6] (by decide +kernel) (by decide +kernel)
set_option maxRecDepth 20000 in
theorem gX11_feed_X11_in : GoodIn wsX11_feed (va_wsS RX11 83 yX11_in wsX11_in) := goodIn_app (goodIn_of _ (by decide +kernel)) ggX11_feed_X11_in
theorem dX11_feed_0 : decode cX11_feed 0 = .ok (.iload_n 1, 1) := by decide +kernel
theorem dX11_feed_1 : decode cX11_feed 1 = .ok (.iconst 0, 1) := by decide +kernel
theorem dX11_feed_2 : decode cX11_feed 2 = .ok (.bipush 127, 2) := by decide +kernel
theorem dX11_feed_4 : decode cX11_feed 4 = .ok (.invokestatic 83, 3) := by decide +kernel
theorem dX11_feed_7 : decode cX11_feed 7 = .ok (.ifCond .ne 6, 3) := by decide +kernel
theorem dX11_feed_10 : decode cX11_feed 10 = .ok (.bipush (-2), 2) := by decide +kernel
theorem dX11_feed_12 : decode cX11_feed 12 = .ok (.ireturn, 1) := by decide +kernel
theorem dX11_feed_13 : decode cX11_feed 13 = .ok (.aload_n 0, 1) := by decide +kernel
theorem dX11_feed_14 : decode cX11_feed 14 = .ok (.getfield 125, 3) := by decide +kernel
theorem dX11_feed_17 : decode cX11_feed 17 = .ok (.bipush 100, 2) := by decide +kernel
theorem dX11_feed_19 : decode cX11_feed 19 = .ok (.if_icmp .ne 6, 3) := by decide +kernel
theorem dX11_feed_22 : decode cX11_feed 22 = .ok (.bipush (-4), 2) := by decide +kernel
theorem dX11_feed_24 : decode cX11_feed 24 = .ok (.ireturn, 1) := by decide +kernel
theorem dX11_feed_25 : decode cX11_feed 25 = .ok (.aload_n 0, 1) := by decide +kernel
theorem dX11_feed_26 : decode cX11_feed 26 = .ok (.getfield 37, 3) := by decide +kernel
theorem dX11_feed_29 : decode cX11_feed 29 = .ok (.aload_n 0, 1) := by decide +kernel
theorem dX11_feed_30 : decode cX11_feed 30 = .ok (.getfield 125, 3) := by decide +kernel
theorem dX11_feed_33 : decode cX11_feed 33 = .ok (.iload_n 1, 1) := by decide +kernel
theorem dX11_feed_34 : decode cX11_feed 34 = .ok (.iastore, 1) := by decide +kernel
theorem dX11_feed_35 : decode cX11_feed 35 = .ok (.aload_n 0, 1) := by decide +kernel
theorem dX11_feed_36 : decode cX11_feed 36 = .ok (.dup, 1) := by decide +kernel
theorem dX11_feed_37 : decode cX11_feed 37 = .ok (.getfield 125, 3) := by decide +kernel
theorem dX11_feed_40 : decode cX11_feed 40 = .ok (.iconst 1, 1) := by decide +kernel
theorem dX11_feed_41 : decode cX11_feed 41 = .ok (.iadd, 1) := by decide +kernel
theorem dX11_feed_42 : decode cX11_feed 42 = .ok (.putfield 125, 3) := by decide +kernel
theorem dX11_feed_45 : decode cX11_feed 45 = .ok (.aload_n 0, 1) := by decide +kernel
theorem dX11_feed_46 : decode cX11_feed 46 = .ok (.getfield 125, 3) := by decide +kernel
theorem dX11_feed_49 : decode cX11_feed 49 = .ok (.ireturn, 1) := by decide +kernel
theorem dX11_here_0 : decode cX11_here 0 = .ok (.aload_n 0, 1) := by decide +kernel
theorem dX11_here_1 : decode cX11_here 1 = .ok (.getfield 227, 3) := by decide +kernel
theorem dX11_here_4 : decode cX11_here 4 = .ok (.aload_n 0, 1) := by decide +kernel
theorem dX11_here_5 : decode cX11_here 5 = .ok (.getfield 125, 3) := by decide +kernel
theorem dX11_here_8 : decode cX11_here 8 = .ok (.if_icmp .ge 15, 3) := by decide +kernel
theorem dX11_here_11 : decode cX11_here 11 = .ok (.aload_n 0, 1) := by decide +kernel
theorem dX11_here_12 : decode cX11_here 12 = .ok (.getfield 37, 3) := by decide +kernel
theorem dX11_here_15 : decode cX11_here 15 = .ok (.aload_n 0, 1) := by decide +kernel
theorem dX11_here_16 : decode cX11_here 16 = .ok (.getfield 227, 3) := by decide +kernel
theorem dX11_here_19 : decode cX11_here 19 = .ok (.iaload, 1) := by decide +kernel
theorem dX11_here_20 : decode cX11_here 20 = .ok (.goto 4, 3) := by decide +kernel
theorem dX11_here_23 : decode cX11_here 23 = .ok (.iconst (-1), 1) := by decide +kernel
theorem dX11_here_24 : decode cX11_here 24 = .ok (.ireturn, 1) := by decide +kernel
set_option maxRecDepth 20000 in
theorem ggX11_isLetter_X11_in : GoodIn wsX11_isLetter wsX11_in := goodIn_r _ [4] (by decide +kernel) (by decide +kernel)
set_option maxRecDepth 20000 in
theorem gX11_isLetter_X11_in : GoodIn wsX11_isLetter (va_wsS RX11 83 yX11_in wsX11_in) := goodIn_app (goodIn_of _ (by decide +kernel)) ggX11_isLetter_X11_in
theorem dX11_isLetter_0 : decode cX11_isLetter 0 = .ok (.iload_n 0, 1) := by decide +kernel
theorem dX11_isLetter_1 : decode cX11_isLetter 1 = .ok (.bipush 97, 2) := by decide +kernel
theorem dX11_isLetter_3 : decode cX11_isLetter 3 = .ok (.bipush 122, 2) := by decide +kernel
theorem dX11_isLetter_5 : decode cX11_isLetter 5 = .ok (.invokestatic 83, 3) := by decide +kernel
theorem dX11_isLetter_8 : decode cX11_isLetter 8 = .ok (.ireturn, 1) := by decide +kernel
set_option maxRecDepth 20000 in
theorem ggX11_isDigit_X11_in : GoodIn wsX11_isDigit wsX11_in := goodIn_r _ [4] (by decide +kernel) (by decide +kernel)
set_option maxRecDepth 20000 in
theorem gX11_isDigit_X11_in : GoodIn wsX11_isDigit (va_wsS RX11 83 yX11_in wsX11_in) := goodIn_app (goodIn_of _ (by decide +kernel)) ggX11_isDigit_X11_in
theorem dX11_isDigit_0 : decode cX11_isDigit 0 = .ok (.iload_n 0, 1) := by decide +kernel
theorem dX11_isDigit_1 : decode cX11_isDigit 1 = .ok (.bipush 48, 2) := by decide +kernel
theorem dX11_isDigit_3 : decode cX11_isDigit 3 = .ok (.bipush 57, 2) := by decide +kernel
theorem dX11_isDigit_5 : decode cX11_isDigit 5 = .ok (.invokestatic 83, 3) := by decide +kernel
theorem dX11_isDigit_8 : decode cX11_isDigit 8 = .ok (.ireturn, 1) := by decide +kernel
set_option maxRecDepth 20000 in
theorem ggX11_name_X11_here : GoodIn wsX11_name wsX11_here := goodIn_r _ [9, 1, 10, 11, 18, 19, 20, 21, 22, 23, 24, 25, 26, 27, 28, 29, 30, 31, 32, 33, 34, 35, 36, 37, 38, 39, 40, 41, 42, 43, 44, 45, 46, 47, 48, 49, 50, 51, 52, 53, 54, 55, 56] (by decide +kernel) (by decide +kernel)
set_option maxRecDepth 20000 in
theorem gX11_name_X11_here : GoodIn wsX11_name (wsV RX11 230 RX11 yX11_here wsX11_here) := goodIn_app (goodIn_of _ (by decide +kernel)) ggX11_name_X11_here
set_option maxRecDepth 20000 in
theorem ggX11_name_X11_isLetter : GoodIn wsX11_name wsX11_isLetter := goodIn_r _ [14, 15, 16, 8, 17] (by decide +kernel) (by decide +kernel)
set_option maxRecDepth 20000 in
theorem gX11_name_X11_isLetter : GoodIn wsX11_name (va_wsS RX11 233 yX11_isLetter wsX11_isLetter) := goodIn_app (goodIn_of _ (by decide +kernel)) ggX11_name_X11_isLetter
theorem dX11_name_0 : decode cX11_name 0 = .ok (.iconst 0, 1) := by decide +kernel
theorem dX11_name_1 : decode cX11_name 1 = .ok (.istore_n 1, 1) := by decide +kernel
theorem dX11_name_2 : decode cX11_name 2 = .ok (.iconst 0, 1) := by decide +kernel
theorem dX11_name_3 : decode cX11_name 3 = .ok (.istore_n 2, 1) := by decide +kernel
theorem dX11_name_4 : decode cX11_name 4 = .ok (.iload_n 2, 1) := by decide +kernel
theorem dX11_name_5 : decode cX11_name 5 = .ok (.bipush 6, 2) := by decide +kernel
theorem dX11_name_7 : decode cX11_name 7 = .ok (.if_icmp .ge 44, 3) := by decide +kernel
theorem dX11_name_10 : decode cX11_name 10 = .ok (.aload_n 0, 1) := by decide +kernel
theorem dX11_name_11 : decode cX11_name 11 = .ok (.invokevirtual 230, 3) := by decide +kernel
theorem dX11_name_14 : decode cX11_name 14 = .ok (.invokestatic 233, 3) := by decide +kernel
theorem dX11_name_17 : decode cX11_name 17 = .ok (.ifCond .eq 34, 3) := by decide +kernel
theorem dX11_name_20 : decode cX11_name 20 = .ok (.bipush 27, 2) := by decide +kernel
theorem dX11_name_22 : decode cX11_name 22 = .ok (.iload_n 1, 1) := by decide +kernel
theorem dX11_name_23 : decode cX11_name 23 = .ok (.imul, 1) := by decide +kernel
theorem dX11_name_24 : decode cX11_name 24 = .ok (.aload_n 0, 1) := by decide +kernel
theorem dX11_name_25 : decode cX11_name 25 = .ok (.invokevirtual 230, 3) := by decide +kernel
theorem dX11_name_28 : decode cX11_name 28 = .ok (.iadd, 1) := by decide +kernel
theorem dX11_name_29 : decode cX11_name 29 = .ok (.bipush 97, 2) := by decide +kernel
theorem dX11_name_31 : decode cX11_name 31 = .ok (.isub, 1) := by decide +kernel
theorem dX11_name_32 : decode cX11_name 32 = .ok (.iconst 1, 1) := by decide +kernel
theorem dX11_name_33 : decode cX11_name 33 = .ok (.iadd, 1) := by decide +kernel
theorem dX11_name_34 : decode cX11_name 34 = .ok (.istore_n 1, 1) := by decide +kernel
theorem dX11_name_35 : decode cX11_name 35 = .ok (.aload_n 0, 1) := by decide +kernel
theorem dX11_name_36 : decode cX11_name 36 = .ok (.dup, 1) := by decide +kernel
theorem dX11_name_37 : decode cX11_name 37 = .ok (.getfield 227, 3) := by decide +kernel
theorem dX11_name_40 : decode cX11_name 40 = .ok (.iconst 1, 1) := by decide +kernel
theorem dX11_name_41 : decode cX11_name 41 = .ok (.iadd, 1) := by decide +kernel
theorem dX11_name_42 : decode cX11_name 42 = .ok (.putfield 227, 3) := by decide +kernel
theorem dX11_name_45 : decode cX11_name 45 = .ok (.iinc 2 1, 3) := by decide +kernel
theorem dX11_name_48 : decode cX11_name 48 = .ok (.goto (-44), 3) := by decide +kernel
theorem dX11_name_51 : decode cX11_name 51 = .ok (.iload_n 2, 1) := by decide +kernel
theorem dX11_name_52 : decode cX11_name 52 = .ok (.ifCond .eq 13, 3) := by decide +kernel
theorem dX11_name_55 : decode cX11_name 55 = .ok (.aload_n 0, 1) := by decide +kernel
theorem dX11_name_56 : decode cX11_name 56 = .ok (.invokevirtual 230, 3) := by decide +kernel
theorem dX11_name_59 : decode cX11_name 59 = .ok (.invokestatic 233, 3) := by decide +kernel
theorem dX11_name_62 : decode cX11_name 62 = .ok (.ifCond .eq 9, 3) := by decide +kernel
theorem dX11_name_65 : decode cX11_name 65 = .ok (.aload_n 0, 1) := by decide +kernel
theorem dX11_name_66 : decode cX11_name 66 = .ok (.iconst 1, 1) := by decide +kernel
theorem dX11_name_67 : decode cX11_name 67 = .ok (.putfield 236, 3) := by decide +kernel
theorem dX11_name_70 : decode cX11_name 70 = .ok (.return_, 1) := by decide +kernel
theorem dX11_name_71 : decode cX11_name 71 = .ok (.iload_n 2, 1) := by decide +kernel
theorem dX11_name_72 : decode cX11_name 72 = .ok (.bipush 6, 2) := by decide +kernel
theorem dX11_name_74 : decode cX11_name 74 = .ok (.if_icmp .ge 14, 3) := by decide +kernel
theorem dX11_name_77 : decode cX11_name 77 = .ok (.iload_n 1, 1) := by decide +kernel
theorem dX11_name_78 : decode cX11_name 78 = .ok (.bipush 27, 2) := by decide +kernel
theorem dX11_name_80 : decode cX11_name 80 = .ok (.imul, 1) := by decide +kernel
theorem dX11_name_81 : decode cX11_name 81 = .ok (.istore_n 1, 1) := by decide +kernel
theorem dX11_name_82 : decode cX11_name 82 = .ok (.iinc 2 1, 3) := by decide +kernel
theorem dX11_name_85 : decode cX11_name 85 = .ok (.goto (-14), 3) := by decide +kernel
theorem dX11_name_88 : decode cX11_name 88 = .ok (.aload_n 0, 1) := by decide +kernel
theorem dX11_name_89 : decode cX11_name 89 = .ok (.getfield 40, 3) := by decide +kernel
theorem dX11_name_92 : decode cX11_name 92 = .ok (.aload_n 0, 1) := by decide +kernel
theorem dX11_name_93 : decode cX11_name 93 = .ok (.getfield 240, 3) := by decide +kernel
theorem dX11_name_96 : decode cX11_name 96 = .ok (.iload_n 1, 1) := by decide +kernel
theorem dX11_name_97 : decode cX11_name 97 = .ok (.iastore, 1) := by decide +kernel
theorem dX11_name_98 : decode cX11_name 98 = .ok (.aload_n 0, 1) := by decide +kernel
theorem dX11_name_99 : decode cX11_name 99 = .ok (.dup, 1) := by decide +kernel
theorem dX11_name_100 : decode cX11_name 100 = .ok (.getfield 240, 3) := by decide +kernel
theorem dX11_name_103 : decode cX11_name 103 = .ok (.iconst 1, 1) := by decide +kernel
theorem dX11_name_104 : decode cX11_name 104 = .ok (.iadd, 1) := by decide +kernel
theorem dX11_name_105 : decode cX11_name 105 = .ok (.putfield 240, 3) := by decide +kernel
theorem dX11_name_108 : decode cX11_name 108 = .ok (.return_, 1) := by decide +kernel
set_option maxRecDepth 20000 in
theorem ggX11_digits__X11_here : GoodIn wsX11_digits_ wsX11_here := goodIn_r _ [8, 2, 9, 10, 17, 18, 19, 20, 21, 22, 23, 24, 25, 26, 27, 28, 29, 30, 31, 32, 33, 34, 35, 36, 37, 38, 39, 40, 41, 42, 43, 44, 45, 46, 47, 48, 49, 50, 51, 52, 53, 54, 55] (by decide +kernel) (by decide +kernel)
set_option maxRecDepth 20000 in
theorem gX11_digits__X11_here : GoodIn wsX11_digits_ (wsV RX11 230 RX11 yX11_here wsX11_here) := goodIn_app (goodIn_of _ (by decide +kernel)) ggX11_digits__X11_here
set_option maxRecDepth 20000 in
theorem ggX11_digits__X11_isDigit : GoodIn wsX11_digits_ wsX11_isDigit := goodIn_r _ [13, 14, 15, 7, 16] (by decide +kernel) (by decide +kernel)
set_option maxRecDepth 20000 in
theorem gX11_digits__X11_isDigit : GoodIn wsX11_digits_ (va_wsS RX11 246 yX11_isDigit wsX11_isDigit) := goodIn_app (goodIn_of _ (by decide +kernel)) ggX11_digits__X11_isDigit
theorem dX11_digits__0 : decode cX11_digits_ 0 = .ok (.aload_n 0, 1) := by decide +kernel
theorem dX11_digits__1 : decode cX11_digits_ 1 = .ok (.iconst 0, 1) := by decide +kernel
theorem dX11_digits__2 : decode cX11_digits_ 2 = .ok (.putfield 243, 3) := by decide +kernel
theorem dX11_digits__5 : decode cX11_digits_ 5 = .ok (.iconst 0, 1) := by decide +kernel
theorem dX11_digits__6 : decode cX11_digits_ 6 = .ok (.istore_n 2, 1) := by decide +kernel
theorem dX11_digits__7 : decode cX11_digits_ 7 = .ok (.iload_n 2, 1) := by decide +kernel
theorem dX11_digits__8 : decode cX11_digits_ 8 = .ok (.iload_n 1, 1) := by decide +kernel
theorem dX11_digits__9 : decode cX11_digits_ 9 = .ok (.if_icmp .ge 48, 3) := by decide +kernel
theorem dX11_digits__12 : decode cX11_digits_ 12 = .ok (.aload_n 0, 1) := by decide +kernel
theorem dX11_digits__13 : decode cX11_digits_ 13 = .ok (.invokevirtual 230, 3) := by decide +kernel
theorem dX11_digits__16 : decode cX11_digits_ 16 = .ok (.invokestatic 246, 3) := by decide +kernel
theorem dX11_digits__19 : decode cX11_digits_ 19 = .ok (.ifCond .eq 38, 3) := by decide +kernel
theorem dX11_digits__22 : decode cX11_digits_ 22 = .ok (.aload_n 0, 1) := by decide +kernel
theorem dX11_digits__23 : decode cX11_digits_ 23 = .ok (.bipush 10, 2) := by decide +kernel
theorem dX11_digits__25 : decode cX11_digits_ 25 = .ok (.aload_n 0, 1) := by decide +kernel
theorem dX11_digits__26 : decode cX11_digits_ 26 = .ok (.getfield 243, 3) := by decide +kernel
theorem dX11_digits__29 : decode cX11_digits_ 29 = .ok (.imul, 1) := by decide +kernel
theorem dX11_digits__30 : decode cX11_digits_ 30 = .ok (.aload_n 0, 1) := by decide +kernel
theorem dX11_digits__31 : decode cX11_digits_ 31 = .ok (.invokevirtual 230, 3) := by decide +kernel
theorem dX11_digits__34 : decode cX11_digits_ 34 = .ok (.iadd, 1) := by decide +kernel
theorem dX11_digits__35 : decode cX11_digits_ 35 = .ok (.bipush 48, 2) := by decide +kernel
theorem dX11_digits__37 : decode cX11_digits_ 37 = .ok (.isub, 1) := by decide +kernel
theorem dX11_digits__38 : decode cX11_digits_ 38 = .ok (.putfield 243, 3) := by decide +kernel
theorem dX11_digits__41 : decode cX11_digits_ 41 = .ok (.aload_n 0, 1) := by decide +kernel
theorem dX11_digits__42 : decode cX11_digits_ 42 = .ok (.dup, 1) := by decide +kernel
theorem dX11_digits__43 : decode cX11_digits_ 43 = .ok (.getfield 227, 3) := by decide +kernel
theorem dX11_digits__46 : decode cX11_digits_ 46 = .ok (.iconst 1, 1) := by decide +kernel
theorem dX11_digits__47 : decode cX11_digits_ 47 = .ok (.iadd, 1) := by decide +kernel
theorem dX11_digits__48 : decode cX11_digits_ 48 = .ok (.putfield 227, 3) := by decide +kernel
theorem dX11_digits__51 : decode cX11_digits_ 51 = .ok (.iinc 2 1, 3) := by decide +kernel
theorem dX11_digits__54 : decode cX11_digits_ 54 = .ok (.goto (-47), 3) := by decide +kernel
theorem dX11_digits__57 : decode cX11_digits_ 57 = .ok (.aload_n 0, 1) := by decide +kernel
theorem dX11_digits__58 : decode cX11_digits_ 58 = .ok (.iload_n 2, 1) := by decide +kernel
theorem dX11_digits__59 : decode cX11_digits_ 59 = .ok (.ifCond .ne 7, 3) := by decide +kernel
theorem dX11_digits__62 : decode cX11_digits_ 62 = .ok (.iconst 1, 1) := by decide +kernel
theorem dX11_digits__63 : decode cX11_digits_ 63 = .ok (.goto 4, 3) := by decide +kernel
theorem dX11_digits__66 : decode cX11_digits_ 66 = .ok (.iconst 0, 1) := by decide +kernel
theorem dX11_digits__67 : decode cX11_digits_ 67 = .ok (.putfield 236, 3) := by decide +kernel
theorem dX11_digits__70 : decode cX11_digits_ 70 = .ok (.return_, 1) := by decide +kernel
set_option maxRecDepth 20000 in
theorem ggX11_graveTold_X11_digits_ : GoodIn wsX11_graveTold wsX11_digits_ := goodIn_r _ [8, 9, 3, 2, 10, 11, 12, 7, 13, 14, 15, 16, 17, 18, 19, 20, 21, 31, 32, 33, 34, 35, 36, 37, 38, 39, 40, 41, 42, 43, 44, 45, 46, 47, 48, 49, 50, 51, 52, 53, 54, 55, 56, 57, 58, 59, 60, 61, 62, 63, 64, 65, 66, 67, 68, 69] (by decide +kernel) (by decide +kernel)
set_option maxRecDepth 20000 in
theorem gX11_graveTold_X11_digits_ : GoodIn wsX11_graveTold (wsV RX11 252 RX11 yX11_digits_ wsX11_digits_) := goodIn_app (goodIn_of _ (by decide +kernel)) ggX11_graveTold_X11_digits_
set_option maxRecDepth 20000 in
theorem ggX11_graveTold_X11_here : GoodIn wsX11_graveTold wsX11_here := goodIn_r _ [13, 3, 14, 15, 31, 32, 33, 34, 35, 36, 37, 38, 39, 40, 41, 42, 43, 44, 45, 46, 47, 48, 49, 50, 51, 52, 53, 54, 55, 56, 57, 58, 59, 60, 61, 62, 63, 64, 65, 66, 67, 68, 69] (by decide +kernel) (by decide +kernel)
set_option maxRecDepth 20000 in
theorem gX11_graveTold_X11_here : GoodIn wsX11_graveTold (wsV RX11 230 RX11 yX11_here wsX11_here) := goodIn_app (goodIn_of _ (by decide +kernel)) ggX11_graveTold_X11_here
set_option maxRecDepth 20000 in
theorem ggX11_graveTold_X11_isLetter : GoodIn wsX11_graveTold wsX11_isLetter := goodIn_r _ [24, 19, 20, 7, 21] (by decide +kernel) (by decide +kernel)
set_option maxRecDepth 20000 in
theorem gX11_graveTold_X11_isLetter : GoodIn wsX11_graveTold (va_wsS RX11 233 yX11_isLetter wsX11_isLetter) := goodIn_app (goodIn_of _ (by decide +kernel)) ggX11_graveTold_X11_isLetter
set_option maxRecDepth 20000 in
theorem ggX11_graveTold_X11_name : GoodIn wsX11_graveTold wsX11_name := goodIn_r _ [28, 3, 2, 29, 30, 10, 11, 12, 7, 13, 14, 15, 22, 23, 24, 19, 20, 21, 31, 32, 33, 34, 35, 36, 37, 38, 39, 40, 41, 42, 43, 44, 45, 46, 47, 48, 49, 50, 51, 52, 53, 54, 55, 56, 57, 58, 59, 60, 61, 62, 63, 64, 65, 66, 67, 68, 69] (by decide +kernel) (by decide +kernel)
set_option maxRecDepth 20000 in
theorem gX11_graveTold_X11_name : GoodIn wsX11_graveTold (wsV RX11 255 RX11 yX11_name wsX11_name) := goodIn_app (goodIn_of _ (by decide +kernel)) ggX11_graveTold_X11_name
theorem dX11_graveTold_0 : decode cX11_graveTold 0 = .ok (.aload_n 0, 1) := by decide +kernel
theorem dX11_graveTold_1 : decode cX11_graveTold 1 = .ok (.iconst 0, 1) := by decide +kernel
theorem dX11_graveTold_2 : decode cX11_graveTold 2 = .ok (.putfield 249, 3) := by decide +kernel
theorem dX11_graveTold_5 : decode cX11_graveTold 5 = .ok (.aload_n 0, 1) := by decide +kernel
theorem dX11_graveTold_6 : decode cX11_graveTold 6 = .ok (.iconst 3, 1) := by decide +kernel
theorem dX11_graveTold_7 : decode cX11_graveTold 7 = .ok (.invokevirtual 252, 3) := by decide +kernel
theorem dX11_graveTold_10 : decode cX11_graveTold 10 = .ok (.aload_n 0, 1) := by decide +kernel
theorem dX11_graveTold_11 : decode cX11_graveTold 11 = .ok (.getfield 236, 3) := by decide +kernel
theorem dX11_graveTold_14 : decode cX11_graveTold 14 = .ok (.ifCond .ne 12, 3) := by decide +kernel
theorem dX11_graveTold_17 : decode cX11_graveTold 17 = .ok (.aload_n 0, 1) := by decide +kernel
theorem dX11_graveTold_18 : decode cX11_graveTold 18 = .ok (.invokevirtual 230, 3) := by decide +kernel
theorem dX11_graveTold_21 : decode cX11_graveTold 21 = .ok (.bipush 58, 2) := by decide +kernel
theorem dX11_graveTold_23 : decode cX11_graveTold 23 = .ok (.if_icmp .eq 9, 3) := by decide +kernel
theorem dX11_graveTold_26 : decode cX11_graveTold 26 = .ok (.aload_n 0, 1) := by decide +kernel
theorem dX11_graveTold_27 : decode cX11_graveTold 27 = .ok (.iconst 1, 1) := by decide +kernel
theorem dX11_graveTold_28 : decode cX11_graveTold 28 = .ok (.putfield 236, 3) := by decide +kernel
theorem dX11_graveTold_31 : decode cX11_graveTold 31 = .ok (.return_, 1) := by decide +kernel
theorem dX11_graveTold_32 : decode cX11_graveTold 32 = .ok (.aload_n 0, 1) := by decide +kernel
theorem dX11_graveTold_33 : decode cX11_graveTold 33 = .ok (.dup, 1) := by decide +kernel
theorem dX11_graveTold_34 : decode cX11_graveTold 34 = .ok (.getfield 227, 3) := by decide +kernel
theorem dX11_graveTold_37 : decode cX11_graveTold 37 = .ok (.iconst 1, 1) := by decide +kernel
theorem dX11_graveTold_38 : decode cX11_graveTold 38 = .ok (.iadd, 1) := by decide +kernel
theorem dX11_graveTold_39 : decode cX11_graveTold 39 = .ok (.putfield 227, 3) := by decide +kernel
theorem dX11_graveTold_42 : decode cX11_graveTold 42 = .ok (.aload_n 0, 1) := by decide +kernel
theorem dX11_graveTold_43 : decode cX11_graveTold 43 = .ok (.invokevirtual 230, 3) := by decide +kernel
theorem dX11_graveTold_46 : decode cX11_graveTold 46 = .ok (.invokestatic 233, 3) := by decide +kernel
theorem dX11_graveTold_49 : decode cX11_graveTold 49 = .ok (.istore_n 1, 1) := by decide +kernel
theorem dX11_graveTold_50 : decode cX11_graveTold 50 = .ok (.iload_n 1, 1) := by decide +kernel
theorem dX11_graveTold_51 : decode cX11_graveTold 51 = .ok (.ifCond .eq 57, 3) := by decide +kernel
theorem dX11_graveTold_54 : decode cX11_graveTold 54 = .ok (.aload_n 0, 1) := by decide +kernel
theorem dX11_graveTold_55 : decode cX11_graveTold 55 = .ok (.getfield 236, 3) := by decide +kernel
theorem dX11_graveTold_58 : decode cX11_graveTold 58 = .ok (.ifCond .ne 50, 3) := by decide +kernel
theorem dX11_graveTold_61 : decode cX11_graveTold 61 = .ok (.aload_n 0, 1) := by decide +kernel
theorem dX11_graveTold_62 : decode cX11_graveTold 62 = .ok (.invokevirtual 255, 3) := by decide +kernel
theorem dX11_graveTold_65 : decode cX11_graveTold 65 = .ok (.aload_n 0, 1) := by decide +kernel
theorem dX11_graveTold_66 : decode cX11_graveTold 66 = .ok (.getfield 236, 3) := by decide +kernel
theorem dX11_graveTold_69 : decode cX11_graveTold 69 = .ok (.ifCond .ne 16, 3) := by decide +kernel
theorem dX11_graveTold_72 : decode cX11_graveTold 72 = .ok (.aload_n 0, 1) := by decide +kernel
theorem dX11_graveTold_73 : decode cX11_graveTold 73 = .ok (.invokevirtual 230, 3) := by decide +kernel
theorem dX11_graveTold_76 : decode cX11_graveTold 76 = .ok (.bipush 44, 2) := by decide +kernel
theorem dX11_graveTold_78 : decode cX11_graveTold 78 = .ok (.if_icmp .ne 7, 3) := by decide +kernel
theorem dX11_graveTold_81 : decode cX11_graveTold 81 = .ok (.iconst 1, 1) := by decide +kernel
theorem dX11_graveTold_82 : decode cX11_graveTold 82 = .ok (.goto 4, 3) := by decide +kernel
theorem dX11_graveTold_85 : decode cX11_graveTold 85 = .ok (.iconst 0, 1) := by decide +kernel
theorem dX11_graveTold_86 : decode cX11_graveTold 86 = .ok (.istore_n 1, 1) := by decide +kernel
theorem dX11_graveTold_87 : decode cX11_graveTold 87 = .ok (.aload_n 0, 1) := by decide +kernel
theorem dX11_graveTold_88 : decode cX11_graveTold 88 = .ok (.dup, 1) := by decide +kernel
theorem dX11_graveTold_89 : decode cX11_graveTold 89 = .ok (.getfield 227, 3) := by decide +kernel
theorem dX11_graveTold_92 : decode cX11_graveTold 92 = .ok (.iload_n 1, 1) := by decide +kernel
theorem dX11_graveTold_93 : decode cX11_graveTold 93 = .ok (.ifCond .eq 7, 3) := by decide +kernel
theorem dX11_graveTold_96 : decode cX11_graveTold 96 = .ok (.iconst 1, 1) := by decide +kernel
theorem dX11_graveTold_97 : decode cX11_graveTold 97 = .ok (.goto 4, 3) := by decide +kernel
theorem dX11_graveTold_100 : decode cX11_graveTold 100 = .ok (.iconst 0, 1) := by decide +kernel
theorem dX11_graveTold_101 : decode cX11_graveTold 101 = .ok (.iadd, 1) := by decide +kernel
theorem dX11_graveTold_102 : decode cX11_graveTold 102 = .ok (.putfield 227, 3) := by decide +kernel
theorem dX11_graveTold_105 : decode cX11_graveTold 105 = .ok (.goto (-55), 3) := by decide +kernel
theorem dX11_graveTold_108 : decode cX11_graveTold 108 = .ok (.return_, 1) := by decide +kernel
set_option maxRecDepth 20000 in
theorem ggX11_statement_X11_here : GoodIn wsX11_statement wsX11_here := goodIn_r _ [9, 3, 10, 11, 35, 36, 37, 38, 39, 40, 41, 42, 43, 44, 45, 46, 47, 48, 49, 50, 51, 52, 53, 54, 55, 56, 57, 58, 59, 60, 61, 62, 63, 64, 65, 66, 67, 68, 69, 70, 71, 72, 73] (by decide +kernel) (by decide +kernel)
set_option maxRecDepth 20000 in
theorem gX11_statement_X11_here : GoodIn wsX11_statement (wsV RX11 230 RX11 yX11_here wsX11_here) := goodIn_app (goodIn_of _ (by decide +kernel)) ggX11_statement_X11_here
set_option maxRecDepth 20000 in
theorem ggX11_statement_X11_graveTold : GoodIn wsX11_statement wsX11_graveTold := goodIn_r _ [15, 2, 4, 3, 16, 17, 18, 8, 19, 20, 5, 6, 7, 9, 10, 11, 21, 22, 23, 24, 25, 26, 27, 28, 29, 30, 31, 32, 33, 34, 1, 35, 36, 37, 38, 39, 40, 41, 42, 43, 44, 45, 46, 47, 48, 49, 50, 51, 52, 53, 54, 55, 56, 57, 58, 59, 60, 61, 62, 63, 64, 65, 66, 67, 68, 69, 70, 71, 72, 73] (by decide +kernel) (by decide +kernel)
set_option maxRecDepth 20000 in
theorem gX11_statement_X11_graveTold : GoodIn wsX11_statement (wsV RX11 258 RX11 yX11_graveTold wsX11_graveTold) := goodIn_app (goodIn_of _ (by decide +kernel)) ggX11_statement_X11_graveTold
set_option maxRecDepth 20000 in
theorem ggX11_statement_X11_digits_ : GoodIn wsX11_statement wsX11_digits_ := goodIn_r _ [19, 20, 3, 4, 5, 6, 7, 8, 9, 10, 11, 21, 22, 23, 24, 25, 26, 35, 36, 37, 38, 39, 40, 41, 42, 43, 44, 45, 46, 47, 48, 49, 50, 51, 52, 53, 54, 55, 56, 57, 58, 59, 60, 61, 62, 63, 64, 65, 66, 67, 68, 69, 70, 71, 72, 73] (by decide +kernel) (by decide +kernel)
set_option maxRecDepth 20000 in
theorem gX11_statement_X11_digits_ : GoodIn wsX11_statement (wsV RX11 252 RX11 yX11_digits_ wsX11_digits_) := goodIn_app (goodIn_of _ (by decide +kernel)) ggX11_statement_X11_digits_
set_option maxRecDepth 20000 in
theorem ggX11_statement_X11_name : GoodIn wsX11_statement wsX11_name := goodIn_r _ [33, 3, 4, 34, 1, 5, 6, 7, 8, 9, 10, 11, 27, 28, 29, 24, 25, 26, 35, 36, 37, 38, 39, 40, 41, 42, 43, 44, 45, 46, 47, 48, 49, 50, 51, 52, 53, 54, 55, 56, 57, 58, 59, 60, 61, 62, 63, 64, 65, 66, 67, 68, 69, 70, 71, 72, 73] (by decide +kernel) (by decide +kernel)
set_option maxRecDepth 20000 in
theorem gX11_statement_X11_name : GoodIn wsX11_statement (wsV RX11 255 RX11 yX11_name wsX11_name) := goodIn_app (goodIn_of _ (by decide +kernel)) ggX11_statement_X11_name
theorem dX11_statement_0 : decode cX11_statement 0 = .ok (.aload_n 0, 1) := by decide +kernel
theorem dX11_statement_1 : decode cX11_statement 1 = .ok (.iconst 0, 1) := by decide +kernel
theorem dX11_statement_2 : decode cX11_statement 2 = .ok (.putfield 240, 3) := by decide +kernel
theorem dX11_statement_5 : decode cX11_statement 5 = .ok (.aload_n 0, 1) := by decide +kernel
theorem dX11_statement_6 : decode cX11_statement 6 = .ok (.invokevirtual 230, 3) := by decide +kernel
theorem dX11_statement_9 : decode cX11_statement 9 = .ok (.bipush 43, 2) := by decide +kernel
theorem dX11_statement_11 : decode cX11_statement 11 = .ok (.if_icmp .eq 17, 3) := by decide +kernel
theorem dX11_statement_14 : decode cX11_statement 14 = .ok (.aload_n 0, 1) := by decide +kernel
theorem dX11_statement_15 : decode cX11_statement 15 = .ok (.invokevirtual 230, 3) := by decide +kernel
theorem dX11_statement_18 : decode cX11_statement 18 = .ok (.bipush 45, 2) := by decide +kernel
theorem dX11_statement_20 : decode cX11_statement 20 = .ok (.if_icmp .eq 8, 3) := by decide +kernel
theorem dX11_statement_23 : decode cX11_statement 23 = .ok (.aload_n 0, 1) := by decide +kernel
theorem dX11_statement_24 : decode cX11_statement 24 = .ok (.invokevirtual 258, 3) := by decide +kernel
theorem dX11_statement_27 : decode cX11_statement 27 = .ok (.return_, 1) := by decide +kernel
theorem dX11_statement_28 : decode cX11_statement 28 = .ok (.aload_n 0, 1) := by decide +kernel
theorem dX11_statement_29 : decode cX11_statement 29 = .ok (.aload_n 0, 1) := by decide +kernel
theorem dX11_statement_30 : decode cX11_statement 30 = .ok (.invokevirtual 230, 3) := by decide +kernel
theorem dX11_statement_33 : decode cX11_statement 33 = .ok (.bipush 43, 2) := by decide +kernel
theorem dX11_statement_35 : decode cX11_statement 35 = .ok (.if_icmp .ne 7, 3) := by decide +kernel
theorem dX11_statement_38 : decode cX11_statement 38 = .ok (.iconst 1, 1) := by decide +kernel
theorem dX11_statement_39 : decode cX11_statement 39 = .ok (.goto 4, 3) := by decide +kernel
theorem dX11_statement_42 : decode cX11_statement 42 = .ok (.iconst (-1), 1) := by decide +kernel
theorem dX11_statement_43 : decode cX11_statement 43 = .ok (.putfield 249, 3) := by decide +kernel
theorem dX11_statement_46 : decode cX11_statement 46 = .ok (.aload_n 0, 1) := by decide +kernel
theorem dX11_statement_47 : decode cX11_statement 47 = .ok (.dup, 1) := by decide +kernel
theorem dX11_statement_48 : decode cX11_statement 48 = .ok (.getfield 227, 3) := by decide +kernel
theorem dX11_statement_51 : decode cX11_statement 51 = .ok (.iconst 1, 1) := by decide +kernel
theorem dX11_statement_52 : decode cX11_statement 52 = .ok (.iadd, 1) := by decide +kernel
theorem dX11_statement_53 : decode cX11_statement 53 = .ok (.putfield 227, 3) := by decide +kernel
theorem dX11_statement_56 : decode cX11_statement 56 = .ok (.aload_n 0, 1) := by decide +kernel
theorem dX11_statement_57 : decode cX11_statement 57 = .ok (.iconst 1, 1) := by decide +kernel
theorem dX11_statement_58 : decode cX11_statement 58 = .ok (.invokevirtual 252, 3) := by decide +kernel
theorem dX11_statement_61 : decode cX11_statement 61 = .ok (.aload_n 0, 1) := by decide +kernel
theorem dX11_statement_62 : decode cX11_statement 62 = .ok (.getfield 236, 3) := by decide +kernel
theorem dX11_statement_65 : decode cX11_statement 65 = .ok (.ifCond .ne 7, 3) := by decide +kernel
theorem dX11_statement_68 : decode cX11_statement 68 = .ok (.aload_n 0, 1) := by decide +kernel
theorem dX11_statement_69 : decode cX11_statement 69 = .ok (.invokevirtual 255, 3) := by decide +kernel
theorem dX11_statement_72 : decode cX11_statement 72 = .ok (.return_, 1) := by decide +kernel
theorem dX11_typeOf_0 : decode cX11_typeOf 0 = .ok (.iconst 0, 1) := by decide +kernel
theorem dX11_typeOf_1 : decode cX11_typeOf 1 = .ok (.istore_n 2, 1) := by decide +kernel
theorem dX11_typeOf_2 : decode cX11_typeOf 2 = .ok (.iload_n 2, 1) := by decide +kernel
theorem dX11_typeOf_3 : decode cX11_typeOf 3 = .ok (.aload_n 0, 1) := by decide +kernel
theorem dX11_typeOf_4 : decode cX11_typeOf 4 = .ok (.getfield 87, 3) := by decide +kernel
theorem dX11_typeOf_7 : decode cX11_typeOf 7 = .ok (.if_icmp .ge 21, 3) := by decide +kernel
theorem dX11_typeOf_10 : decode cX11_typeOf 10 = .ok (.aload_n 0, 1) := by decide +kernel
theorem dX11_typeOf_11 : decode cX11_typeOf 11 = .ok (.getfield 22, 3) := by decide +kernel
theorem dX11_typeOf_14 : decode cX11_typeOf 14 = .ok (.iload_n 2, 1) := by decide +kernel
theorem dX11_typeOf_15 : decode cX11_typeOf 15 = .ok (.iaload, 1) := by decide +kernel
theorem dX11_typeOf_16 : decode cX11_typeOf 16 = .ok (.iload_n 1, 1) := by decide +kernel
theorem dX11_typeOf_17 : decode cX11_typeOf 17 = .ok (.if_icmp .ne 5, 3) := by decide +kernel
theorem dX11_typeOf_20 : decode cX11_typeOf 20 = .ok (.iload_n 2, 1) := by decide +kernel
theorem dX11_typeOf_21 : decode cX11_typeOf 21 = .ok (.ireturn, 1) := by decide +kernel
theorem dX11_typeOf_22 : decode cX11_typeOf 22 = .ok (.iinc 2 1, 3) := by decide +kernel
theorem dX11_typeOf_25 : decode cX11_typeOf 25 = .ok (.goto (-23), 3) := by decide +kernel
theorem dX11_typeOf_28 : decode cX11_typeOf 28 = .ok (.aload_n 0, 1) := by decide +kernel
theorem dX11_typeOf_29 : decode cX11_typeOf 29 = .ok (.getfield 87, 3) := by decide +kernel
theorem dX11_typeOf_32 : decode cX11_typeOf 32 = .ok (.bipush 8, 2) := by decide +kernel
theorem dX11_typeOf_34 : decode cX11_typeOf 34 = .ok (.if_icmp .ne 5, 3) := by decide +kernel
theorem dX11_typeOf_37 : decode cX11_typeOf 37 = .ok (.iconst (-1), 1) := by decide +kernel
theorem dX11_typeOf_38 : decode cX11_typeOf 38 = .ok (.ireturn, 1) := by decide +kernel
theorem dX11_typeOf_39 : decode cX11_typeOf 39 = .ok (.aload_n 0, 1) := by decide +kernel
theorem dX11_typeOf_40 : decode cX11_typeOf 40 = .ok (.getfield 22, 3) := by decide +kernel
theorem dX11_typeOf_43 : decode cX11_typeOf 43 = .ok (.aload_n 0, 1) := by decide +kernel
theorem dX11_typeOf_44 : decode cX11_typeOf 44 = .ok (.getfield 87, 3) := by decide +kernel
theorem dX11_typeOf_47 : decode cX11_typeOf 47 = .ok (.iload_n 1, 1) := by decide +kernel
theorem dX11_typeOf_48 : decode cX11_typeOf 48 = .ok (.iastore, 1) := by decide +kernel
theorem dX11_typeOf_49 : decode cX11_typeOf 49 = .ok (.aload_n 0, 1) := by decide +kernel
theorem dX11_typeOf_50 : decode cX11_typeOf 50 = .ok (.dup, 1) := by decide +kernel
theorem dX11_typeOf_51 : decode cX11_typeOf 51 = .ok (.getfield 87, 3) := by decide +kernel
theorem dX11_typeOf_54 : decode cX11_typeOf 54 = .ok (.iconst 1, 1) := by decide +kernel
theorem dX11_typeOf_55 : decode cX11_typeOf 55 = .ok (.iadd, 1) := by decide +kernel
theorem dX11_typeOf_56 : decode cX11_typeOf 56 = .ok (.putfield 87, 3) := by decide +kernel
theorem dX11_typeOf_59 : decode cX11_typeOf 59 = .ok (.aload_n 0, 1) := by decide +kernel
theorem dX11_typeOf_60 : decode cX11_typeOf 60 = .ok (.getfield 87, 3) := by decide +kernel
theorem dX11_typeOf_63 : decode cX11_typeOf 63 = .ok (.iconst 1, 1) := by decide +kernel
theorem dX11_typeOf_64 : decode cX11_typeOf 64 = .ok (.isub, 1) := by decide +kernel
theorem dX11_typeOf_65 : decode cX11_typeOf 65 = .ok (.ireturn, 1) := by decide +kernel
theorem dX11_isTwice_0 : decode cX11_isTwice 0 = .ok (.iconst 0, 1) := by decide +kernel
theorem dX11_isTwice_1 : decode cX11_isTwice 1 = .ok (.istore_n 1, 1) := by decide +kernel
theorem dX11_isTwice_2 : decode cX11_isTwice 2 = .ok (.iload_n 1, 1) := by decide +kernel
theorem dX11_isTwice_3 : decode cX11_isTwice 3 = .ok (.aload_n 0, 1) := by decide +kernel
theorem dX11_isTwice_4 : decode cX11_isTwice 4 = .ok (.getfield 240, 3) := by decide +kernel
theorem dX11_isTwice_7 : decode cX11_isTwice 7 = .ok (.if_icmp .ge 39, 3) := by decide +kernel
theorem dX11_isTwice_10 : decode cX11_isTwice 10 = .ok (.iconst 0, 1) := by decide +kernel
theorem dX11_isTwice_11 : decode cX11_isTwice 11 = .ok (.istore_n 2, 1) := by decide +kernel
theorem dX11_isTwice_12 : decode cX11_isTwice 12 = .ok (.iload_n 2, 1) := by decide +kernel
theorem dX11_isTwice_13 : decode cX11_isTwice 13 = .ok (.iload_n 1, 1) := by decide +kernel
theorem dX11_isTwice_14 : decode cX11_isTwice 14 = .ok (.if_icmp .ge 26, 3) := by decide +kernel
theorem dX11_isTwice_17 : decode cX11_isTwice 17 = .ok (.aload_n 0, 1) := by decide +kernel
theorem dX11_isTwice_18 : decode cX11_isTwice 18 = .ok (.getfield 40, 3) := by decide +kernel
theorem dX11_isTwice_21 : decode cX11_isTwice 21 = .ok (.iload_n 1, 1) := by decide +kernel
theorem dX11_isTwice_22 : decode cX11_isTwice 22 = .ok (.iaload, 1) := by decide +kernel
theorem dX11_isTwice_23 : decode cX11_isTwice 23 = .ok (.aload_n 0, 1) := by decide +kernel
theorem dX11_isTwice_24 : decode cX11_isTwice 24 = .ok (.getfield 40, 3) := by decide +kernel
theorem dX11_isTwice_27 : decode cX11_isTwice 27 = .ok (.iload_n 2, 1) := by decide +kernel
theorem dX11_isTwice_28 : decode cX11_isTwice 28 = .ok (.iaload, 1) := by decide +kernel
theorem dX11_isTwice_29 : decode cX11_isTwice 29 = .ok (.if_icmp .ne 5, 3) := by decide +kernel
theorem dX11_isTwice_32 : decode cX11_isTwice 32 = .ok (.iconst 1, 1) := by decide +kernel
theorem dX11_isTwice_33 : decode cX11_isTwice 33 = .ok (.ireturn, 1) := by decide +kernel
theorem dX11_isTwice_34 : decode cX11_isTwice 34 = .ok (.iinc 2 1, 3) := by decide +kernel
theorem dX11_isTwice_37 : decode cX11_isTwice 37 = .ok (.goto (-25), 3) := by decide +kernel
theorem dX11_isTwice_40 : decode cX11_isTwice 40 = .ok (.iinc 1 1, 3) := by decide +kernel
theorem dX11_isTwice_43 : decode cX11_isTwice 43 = .ok (.goto (-41), 3) := by decide +kernel
theorem dX11_isTwice_46 : decode cX11_isTwice 46 = .ok (.iconst 0, 1) := by decide +kernel
theorem dX11_isTwice_47 : decode cX11_isTwice 47 = .ok (.ireturn, 1) := by decide +kernel
set_option maxRecDepth 20000 in
theorem ggX11_isDone_X11_isTwice : GoodIn wsX11_isDone wsX11_isTwice := goodIn_r _ [11, 4, 5, 30, 31, 32, 33, 34, 35, 36, 37, 38, 39, 40, 41, 42, 43, 44, 45, 46, 47, 48, 49, 50, 51, 52, 53, 54, 55, 56, 57, 58, 59, 60, 61, 62, 63, 64, 65, 66, 67, 68] (by decide +kernel) (by decide +kernel)
set_option maxRecDepth 20000 in
theorem gX11_isDone_X11_isTwice : GoodIn wsX11_isDone (wsV RX11 261 RX11 yX11_isTwice wsX11_isTwice) := goodIn_app (goodIn_of _ (by decide +kernel)) ggX11_isDone_X11_isTwice
set_option maxRecDepth 20000 in
theorem ggX11_isDone_X11_isGrave : GoodIn wsX11_isDone wsX11_isGrave := goodIn_r _ [15, 2, 16, 17, 10, 18, 30, 31, 32, 33, 34, 35, 36, 37, 38, 39, 40, 41, 42, 43, 44, 45, 46, 47, 48, 49, 50, 51, 52, 53, 54, 55, 56, 57, 58, 59, 60, 61, 62, 63, 64, 65, 66, 67, 68] (by decide +kernel) (by decide +kernel)
set_option maxRecDepth 20000 in
theorem gX11_isDone_X11_isGrave : GoodIn wsX11_isDone (wsV RX11 90 RX11 yX11_isGrave wsX11_isGrave) := goodIn_app (goodIn_of _ (by decide +kernel)) ggX11_isDone_X11_isGrave
set_option maxRecDepth 20000 in
theorem ggX11_isDone_X11_typeOf : GoodIn wsX11_isDone wsX11_typeOf := goodIn_r _ [22, 23, 24, 30, 31, 32, 33, 34, 35, 36, 37, 38, 39, 40, 41, 42, 43, 44, 45, 46, 47, 48, 49, 50, 51, 52, 53, 54, 55, 56, 57, 58, 59, 60, 61, 62, 63, 64, 65, 66, 67, 68] (by decide +kernel) (by decide +kernel)
set_option maxRecDepth 20000 in
theorem gX11_isDone_X11_typeOf : GoodIn wsX11_isDone (wsV RX11 264 RX11 yX11_typeOf wsX11_typeOf) := goodIn_app (goodIn_of _ (by decide +kernel)) ggX11_isDone_X11_typeOf
set_option maxRecDepth 20000 in
theorem ggX11_isDone_X11_grave : GoodIn wsX11_isDone wsX11_grave := goodIn_r _ [28, 2, 29, 6, 16, 17, 10, 18, 30, 31, 32, 33, 34, 35, 36, 37, 38, 39, 40, 41, 42, 43, 44, 45, 46, 47, 48, 49, 50, 51, 52, 53, 54, 55, 56, 57, 58, 59, 60, 61, 62, 63, 64, 65, 66, 67, 68] (by decide +kernel) (by decide +kernel)
set_option maxRecDepth 20000 in
theorem gX11_isDone_X11_grave : GoodIn wsX11_isDone (wsV RX11 267 RX11 yX11_grave wsX11_grave) := goodIn_app (goodIn_of _ (by decide +kernel)) ggX11_isDone_X11_grave
theorem dX11_isDone_0 : decode cX11_isDone 0 = .ok (.aload_n 0, 1) := by decide +kernel
theorem dX11_isDone_1 : decode cX11_isDone 1 = .ok (.getfield 249, 3) := by decide +kernel
theorem dX11_isDone_4 : decode cX11_isDone 4 = .ok (.ifCond .ne 19, 3) := by decide +kernel
theorem dX11_isDone_7 : decode cX11_isDone 7 = .ok (.aload_n 0, 1) := by decide +kernel
theorem dX11_isDone_8 : decode cX11_isDone 8 = .ok (.getfield 80, 3) := by decide +kernel
theorem dX11_isDone_11 : decode cX11_isDone 11 = .ok (.bipush 7, 2) := by decide +kernel
theorem dX11_isDone_13 : decode cX11_isDone 13 = .ok (.if_icmp .eq 28, 3) := by decide +kernel
theorem dX11_isDone_16 : decode cX11_isDone 16 = .ok (.aload_n 0, 1) := by decide +kernel
theorem dX11_isDone_17 : decode cX11_isDone 17 = .ok (.invokevirtual 261, 3) := by decide +kernel
theorem dX11_isDone_20 : decode cX11_isDone 20 = .ok (.ifCond .ne 21, 3) := by decide +kernel
theorem dX11_isDone_23 : decode cX11_isDone 23 = .ok (.aload_n 0, 1) := by decide +kernel
theorem dX11_isDone_24 : decode cX11_isDone 24 = .ok (.getfield 249, 3) := by decide +kernel
theorem dX11_isDone_27 : decode cX11_isDone 27 = .ok (.ifCond .eq 16, 3) := by decide +kernel
theorem dX11_isDone_30 : decode cX11_isDone 30 = .ok (.aload_n 0, 1) := by decide +kernel
theorem dX11_isDone_31 : decode cX11_isDone 31 = .ok (.aload_n 0, 1) := by decide +kernel
theorem dX11_isDone_32 : decode cX11_isDone 32 = .ok (.getfield 243, 3) := by decide +kernel
theorem dX11_isDone_35 : decode cX11_isDone 35 = .ok (.invokevirtual 90, 3) := by decide +kernel
theorem dX11_isDone_38 : decode cX11_isDone 38 = .ok (.ifCond .ne 5, 3) := by decide +kernel
theorem dX11_isDone_41 : decode cX11_isDone 41 = .ok (.iconst 0, 1) := by decide +kernel
theorem dX11_isDone_42 : decode cX11_isDone 42 = .ok (.ireturn, 1) := by decide +kernel
theorem dX11_isDone_43 : decode cX11_isDone 43 = .ok (.iconst 0, 1) := by decide +kernel
theorem dX11_isDone_44 : decode cX11_isDone 44 = .ok (.istore_n 1, 1) := by decide +kernel
theorem dX11_isDone_45 : decode cX11_isDone 45 = .ok (.iconst 0, 1) := by decide +kernel
theorem dX11_isDone_46 : decode cX11_isDone 46 = .ok (.istore_n 2, 1) := by decide +kernel
theorem dX11_isDone_47 : decode cX11_isDone 47 = .ok (.iload_n 2, 1) := by decide +kernel
theorem dX11_isDone_48 : decode cX11_isDone 48 = .ok (.aload_n 0, 1) := by decide +kernel
theorem dX11_isDone_49 : decode cX11_isDone 49 = .ok (.getfield 240, 3) := by decide +kernel
theorem dX11_isDone_52 : decode cX11_isDone 52 = .ok (.if_icmp .ge 33, 3) := by decide +kernel
theorem dX11_isDone_55 : decode cX11_isDone 55 = .ok (.aload_n 0, 1) := by decide +kernel
theorem dX11_isDone_56 : decode cX11_isDone 56 = .ok (.aload_n 0, 1) := by decide +kernel
theorem dX11_isDone_57 : decode cX11_isDone 57 = .ok (.getfield 40, 3) := by decide +kernel
theorem dX11_isDone_60 : decode cX11_isDone 60 = .ok (.iload_n 2, 1) := by decide +kernel
theorem dX11_isDone_61 : decode cX11_isDone 61 = .ok (.iaload, 1) := by decide +kernel
theorem dX11_isDone_62 : decode cX11_isDone 62 = .ok (.invokevirtual 264, 3) := by decide +kernel
theorem dX11_isDone_65 : decode cX11_isDone 65 = .ok (.istore_n 3, 1) := by decide +kernel
theorem dX11_isDone_66 : decode cX11_isDone 66 = .ok (.iload_n 3, 1) := by decide +kernel
theorem dX11_isDone_67 : decode cX11_isDone 67 = .ok (.iconst (-1), 1) := by decide +kernel
theorem dX11_isDone_68 : decode cX11_isDone 68 = .ok (.if_icmp .ne 5, 3) := by decide +kernel
theorem dX11_isDone_71 : decode cX11_isDone 71 = .ok (.iconst 0, 1) := by decide +kernel
theorem dX11_isDone_72 : decode cX11_isDone 72 = .ok (.ireturn, 1) := by decide +kernel
theorem dX11_isDone_73 : decode cX11_isDone 73 = .ok (.iload_n 1, 1) := by decide +kernel
theorem dX11_isDone_74 : decode cX11_isDone 74 = .ok (.iconst 1, 1) := by decide +kernel
theorem dX11_isDone_75 : decode cX11_isDone 75 = .ok (.iload_n 3, 1) := by decide +kernel
theorem dX11_isDone_76 : decode cX11_isDone 76 = .ok (.ishl, 1) := by decide +kernel
theorem dX11_isDone_77 : decode cX11_isDone 77 = .ok (.ior, 1) := by decide +kernel
theorem dX11_isDone_78 : decode cX11_isDone 78 = .ok (.istore_n 1, 1) := by decide +kernel
theorem dX11_isDone_79 : decode cX11_isDone 79 = .ok (.iinc 2 1, 3) := by decide +kernel
theorem dX11_isDone_82 : decode cX11_isDone 82 = .ok (.goto (-35), 3) := by decide +kernel
theorem dX11_isDone_85 : decode cX11_isDone 85 = .ok (.aload_n 0, 1) := by decide +kernel
theorem dX11_isDone_86 : decode cX11_isDone 86 = .ok (.getfield 249, 3) := by decide +kernel
theorem dX11_isDone_89 : decode cX11_isDone 89 = .ok (.ifCond .ne 22, 3) := by decide +kernel
theorem dX11_isDone_92 : decode cX11_isDone 92 = .ok (.aload_n 0, 1) := by decide +kernel
theorem dX11_isDone_93 : decode cX11_isDone 93 = .ok (.aload_n 0, 1) := by decide +kernel
theorem dX11_isDone_94 : decode cX11_isDone 94 = .ok (.getfield 243, 3) := by decide +kernel
theorem dX11_isDone_97 : decode cX11_isDone 97 = .ok (.invokevirtual 267, 3) := by decide +kernel
theorem dX11_isDone_100 : decode cX11_isDone 100 = .ok (.istore_n 2, 1) := by decide +kernel
theorem dX11_isDone_101 : decode cX11_isDone 101 = .ok (.aload_n 0, 1) := by decide +kernel
theorem dX11_isDone_102 : decode cX11_isDone 102 = .ok (.getfield 19, 3) := by decide +kernel
theorem dX11_isDone_105 : decode cX11_isDone 105 = .ok (.iload_n 2, 1) := by decide +kernel
theorem dX11_isDone_106 : decode cX11_isDone 106 = .ok (.iload_n 1, 1) := by decide +kernel
theorem dX11_isDone_107 : decode cX11_isDone 107 = .ok (.iastore, 1) := by decide +kernel
theorem dX11_isDone_108 : decode cX11_isDone 108 = .ok (.goto 46, 3) := by decide +kernel
theorem dX11_isDone_111 : decode cX11_isDone 111 = .ok (.aload_n 0, 1) := by decide +kernel
theorem dX11_isDone_112 : decode cX11_isDone 112 = .ok (.getfield 19, 3) := by decide +kernel
theorem dX11_isDone_115 : decode cX11_isDone 115 = .ok (.aload_n 0, 1) := by decide +kernel
theorem dX11_isDone_116 : decode cX11_isDone 116 = .ok (.getfield 243, 3) := by decide +kernel
theorem dX11_isDone_119 : decode cX11_isDone 119 = .ok (.aload_n 0, 1) := by decide +kernel
theorem dX11_isDone_120 : decode cX11_isDone 120 = .ok (.getfield 249, 3) := by decide +kernel
theorem dX11_isDone_123 : decode cX11_isDone 123 = .ok (.ifCond .le 17, 3) := by decide +kernel
theorem dX11_isDone_126 : decode cX11_isDone 126 = .ok (.aload_n 0, 1) := by decide +kernel
theorem dX11_isDone_127 : decode cX11_isDone 127 = .ok (.getfield 19, 3) := by decide +kernel
theorem dX11_isDone_130 : decode cX11_isDone 130 = .ok (.aload_n 0, 1) := by decide +kernel
theorem dX11_isDone_131 : decode cX11_isDone 131 = .ok (.getfield 243, 3) := by decide +kernel
theorem dX11_isDone_134 : decode cX11_isDone 134 = .ok (.iaload, 1) := by decide +kernel
theorem dX11_isDone_135 : decode cX11_isDone 135 = .ok (.iload_n 1, 1) := by decide +kernel
theorem dX11_isDone_136 : decode cX11_isDone 136 = .ok (.ior, 1) := by decide +kernel
theorem dX11_isDone_137 : decode cX11_isDone 137 = .ok (.goto 16, 3) := by decide +kernel
theorem dX11_isDone_140 : decode cX11_isDone 140 = .ok (.aload_n 0, 1) := by decide +kernel
theorem dX11_isDone_141 : decode cX11_isDone 141 = .ok (.getfield 19, 3) := by decide +kernel
theorem dX11_isDone_144 : decode cX11_isDone 144 = .ok (.aload_n 0, 1) := by decide +kernel
theorem dX11_isDone_145 : decode cX11_isDone 145 = .ok (.getfield 243, 3) := by decide +kernel
theorem dX11_isDone_148 : decode cX11_isDone 148 = .ok (.iaload, 1) := by decide +kernel
theorem dX11_isDone_149 : decode cX11_isDone 149 = .ok (.iload_n 1, 1) := by decide +kernel
theorem dX11_isDone_150 : decode cX11_isDone 150 = .ok (.iconst (-1), 1) := by decide +kernel
theorem dX11_isDone_151 : decode cX11_isDone 151 = .ok (.ixor, 1) := by decide +kernel
theorem dX11_isDone_152 : decode cX11_isDone 152 = .ok (.iand, 1) := by decide +kernel
theorem dX11_isDone_153 : decode cX11_isDone 153 = .ok (.iastore, 1) := by decide +kernel
theorem dX11_isDone_154 : decode cX11_isDone 154 = .ok (.iconst 1, 1) := by decide +kernel
theorem dX11_isDone_155 : decode cX11_isDone 155 = .ok (.ireturn, 1) := by decide +kernel
theorem dX11_copies_0 : decode cX11_copies 0 = .ok (.iconst 0, 1) := by decide +kernel
theorem dX11_copies_1 : decode cX11_copies 1 = .ok (.istore_n 3, 1) := by decide +kernel
theorem dX11_copies_2 : decode cX11_copies 2 = .ok (.iload_n 3, 1) := by decide +kernel
theorem dX11_copies_3 : decode cX11_copies 3 = .ok (.iload_n 2, 1) := by decide +kernel
theorem dX11_copies_4 : decode cX11_copies 4 = .ok (.if_icmp .ge 15, 3) := by decide +kernel
theorem dX11_copies_7 : decode cX11_copies 7 = .ok (.aload_n 1, 1) := by decide +kernel
theorem dX11_copies_8 : decode cX11_copies 8 = .ok (.iload_n 3, 1) := by decide +kernel
theorem dX11_copies_9 : decode cX11_copies 9 = .ok (.aload_n 0, 1) := by decide +kernel
theorem dX11_copies_10 : decode cX11_copies 10 = .ok (.iload_n 3, 1) := by decide +kernel
theorem dX11_copies_11 : decode cX11_copies 11 = .ok (.iaload, 1) := by decide +kernel
theorem dX11_copies_12 : decode cX11_copies 12 = .ok (.iastore, 1) := by decide +kernel
theorem dX11_copies_13 : decode cX11_copies 13 = .ok (.iinc 3 1, 3) := by decide +kernel
theorem dX11_copies_16 : decode cX11_copies 16 = .ok (.goto (-14), 3) := by decide +kernel
theorem dX11_copies_19 : decode cX11_copies 19 = .ok (.return_, 1) := by decide +kernel
set_option maxRecDepth 20000 in
theorem ggX11_goesThrough_X11_statement : GoodIn wsX11_goesThrough wsX11_statement := goodIn_r _ [8, 9, 10, 1, 2, 11, 12, 13, 7, 14, 3, 15, 16, 17, 18, 19, 20, 21, 22, 23, 24, 25, 26, 27, 28, 29, 30, 31, 32, 33, 34, 35, 36, 37, 38, 64, 65, 66, 67, 68, 69, 70, 71, 72, 73, 74, 75, 76, 77, 78, 79, 80, 81, 82, 83, 84, 85, 86, 87, 88, 89, 90, 91, 92, 93, 94, 95, 96, 97, 98, 99, 100, 101, 102] (by decide +kernel) (by decide +kernel)
set_option maxRecDepth 20000 in
theorem gX11_goesThrough_X11_statement : GoodIn wsX11_goesThrough (wsV RX11 270 RX11 yX11_statement wsX11_statement) := goodIn_app (goodIn_of _ (by decide +kernel)) ggX11_goesThrough_X11_statement
set_option maxRecDepth 20000 in
theorem ggX11_goesThrough_X11_isDone : GoodIn wsX11_goesThrough wsX11_isDone := goodIn_r _ [42, 10, 43, 24, 9, 38, 44, 45, 46, 47, 7, 48, 49, 50, 51, 52, 28, 29, 30, 53, 54, 55, 56, 57, 58, 59, 60, 61, 62, 63, 64, 65, 66, 67, 68, 69, 70, 71, 72, 73, 74, 75, 76, 77, 78, 79, 80, 81, 82, 83, 84, 85, 86, 87, 88, 89, 90, 91, 92, 93, 94, 95, 96, 97, 98, 99, 100, 101, 102] (by decide +kernel) (by decide +kernel)
set_option maxRecDepth 20000 in
theorem gX11_goesThrough_X11_isDone : GoodIn wsX11_goesThrough (wsV RX11 273 RX11 yX11_isDone wsX11_isDone) := goodIn_app (goodIn_of _ (by decide +kernel)) ggX11_goesThrough_X11_isDone
set_option maxRecDepth 20000 in
theorem ggX11_goesThrough_X11_here : GoodIn wsX11_goesThrough wsX11_here := goodIn_r _ [14, 1, 3, 15, 64, 65, 66, 67, 68, 69, 70, 71, 72, 73, 74, 75, 76, 77, 78, 79, 80, 81, 82, 83, 84, 85, 86, 87, 88, 89, 90, 91, 92, 93, 94, 95, 96, 97, 98, 99, 100, 101, 102] (by decide +kernel) (by decide +kernel)
set_option maxRecDepth 20000 in
theorem gX11_goesThrough_X11_here : GoodIn wsX11_goesThrough (wsV RX11 230 RX11 yX11_here wsX11_here) := goodIn_app (goodIn_of _ (by decide +kernel)) ggX11_goesThrough_X11_here
theorem dX11_goesThrough_0 : decode cX11_goesThrough 0 = .ok (.aload_n 0, 1) := by decide +kernel
theorem dX11_goesThrough_1 : decode cX11_goesThrough 1 = .ok (.iconst 0, 1) := by decide +kernel
theorem dX11_goesThrough_2 : decode cX11_goesThrough 2 = .ok (.putfield 227, 3) := by decide +kernel
theorem dX11_goesThrough_5 : decode cX11_goesThrough 5 = .ok (.iconst 0, 1) := by decide +kernel
theorem dX11_goesThrough_6 : decode cX11_goesThrough 6 = .ok (.istore_n 2, 1) := by decide +kernel
theorem dX11_goesThrough_7 : decode cX11_goesThrough 7 = .ok (.aload_n 0, 1) := by decide +kernel
theorem dX11_goesThrough_8 : decode cX11_goesThrough 8 = .ok (.getfield 227, 3) := by decide +kernel
theorem dX11_goesThrough_11 : decode cX11_goesThrough 11 = .ok (.istore_n 3, 1) := by decide +kernel
theorem dX11_goesThrough_12 : decode cX11_goesThrough 12 = .ok (.aload_n 0, 1) := by decide +kernel
theorem dX11_goesThrough_13 : decode cX11_goesThrough 13 = .ok (.iconst 0, 1) := by decide +kernel
theorem dX11_goesThrough_14 : decode cX11_goesThrough 14 = .ok (.putfield 236, 3) := by decide +kernel
theorem dX11_goesThrough_17 : decode cX11_goesThrough 17 = .ok (.aload_n 0, 1) := by decide +kernel
theorem dX11_goesThrough_18 : decode cX11_goesThrough 18 = .ok (.invokevirtual 270, 3) := by decide +kernel
theorem dX11_goesThrough_21 : decode cX11_goesThrough 21 = .ok (.aload_n 0, 1) := by decide +kernel
theorem dX11_goesThrough_22 : decode cX11_goesThrough 22 = .ok (.getfield 236, 3) := by decide +kernel
theorem dX11_goesThrough_25 : decode cX11_goesThrough 25 = .ok (.ifCond .eq 11, 3) := by decide +kernel
theorem dX11_goesThrough_28 : decode cX11_goesThrough 28 = .ok (.bipush (-100), 2) := by decide +kernel
theorem dX11_goesThrough_30 : decode cX11_goesThrough 30 = .ok (.aload_n 0, 1) := by decide +kernel
theorem dX11_goesThrough_31 : decode cX11_goesThrough 31 = .ok (.getfield 227, 3) := by decide +kernel
theorem dX11_goesThrough_34 : decode cX11_goesThrough 34 = .ok (.isub, 1) := by decide +kernel
theorem dX11_goesThrough_35 : decode cX11_goesThrough 35 = .ok (.ireturn, 1) := by decide +kernel
theorem dX11_goesThrough_36 : decode cX11_goesThrough 36 = .ok (.iload_n 1, 1) := by decide +kernel
theorem dX11_goesThrough_37 : decode cX11_goesThrough 37 = .ok (.ifCond .eq 16, 3) := by decide +kernel
theorem dX11_goesThrough_40 : decode cX11_goesThrough 40 = .ok (.aload_n 0, 1) := by decide +kernel
theorem dX11_goesThrough_41 : decode cX11_goesThrough 41 = .ok (.invokevirtual 273, 3) := by decide +kernel
theorem dX11_goesThrough_44 : decode cX11_goesThrough 44 = .ok (.ifCond .ne 9, 3) := by decide +kernel
theorem dX11_goesThrough_47 : decode cX11_goesThrough 47 = .ok (.sipush (-300), 3) := by decide +kernel
theorem dX11_goesThrough_50 : decode cX11_goesThrough 50 = .ok (.iload_n 3, 1) := by decide +kernel
theorem dX11_goesThrough_51 : decode cX11_goesThrough 51 = .ok (.isub, 1) := by decide +kernel
theorem dX11_goesThrough_52 : decode cX11_goesThrough 52 = .ok (.ireturn, 1) := by decide +kernel
theorem dX11_goesThrough_53 : decode cX11_goesThrough 53 = .ok (.iinc 2 1, 3) := by decide +kernel
theorem dX11_goesThrough_56 : decode cX11_goesThrough 56 = .ok (.aload_n 0, 1) := by decide +kernel
theorem dX11_goesThrough_57 : decode cX11_goesThrough 57 = .ok (.getfield 227, 3) := by decide +kernel
theorem dX11_goesThrough_60 : decode cX11_goesThrough 60 = .ok (.aload_n 0, 1) := by decide +kernel
theorem dX11_goesThrough_61 : decode cX11_goesThrough 61 = .ok (.getfield 125, 3) := by decide +kernel
theorem dX11_goesThrough_64 : decode cX11_goesThrough 64 = .ok (.if_icmp .ne 5, 3) := by decide +kernel
theorem dX11_goesThrough_67 : decode cX11_goesThrough 67 = .ok (.iload_n 2, 1) := by decide +kernel
theorem dX11_goesThrough_68 : decode cX11_goesThrough 68 = .ok (.ireturn, 1) := by decide +kernel
theorem dX11_goesThrough_69 : decode cX11_goesThrough 69 = .ok (.aload_n 0, 1) := by decide +kernel
theorem dX11_goesThrough_70 : decode cX11_goesThrough 70 = .ok (.invokevirtual 230, 3) := by decide +kernel
theorem dX11_goesThrough_73 : decode cX11_goesThrough 73 = .ok (.bipush 59, 2) := by decide +kernel
theorem dX11_goesThrough_75 : decode cX11_goesThrough 75 = .ok (.if_icmp .eq 11, 3) := by decide +kernel
theorem dX11_goesThrough_78 : decode cX11_goesThrough 78 = .ok (.bipush (-100), 2) := by decide +kernel
theorem dX11_goesThrough_80 : decode cX11_goesThrough 80 = .ok (.aload_n 0, 1) := by decide +kernel
theorem dX11_goesThrough_81 : decode cX11_goesThrough 81 = .ok (.getfield 227, 3) := by decide +kernel
theorem dX11_goesThrough_84 : decode cX11_goesThrough 84 = .ok (.isub, 1) := by decide +kernel
theorem dX11_goesThrough_85 : decode cX11_goesThrough 85 = .ok (.ireturn, 1) := by decide +kernel
theorem dX11_goesThrough_86 : decode cX11_goesThrough 86 = .ok (.aload_n 0, 1) := by decide +kernel
theorem dX11_goesThrough_87 : decode cX11_goesThrough 87 = .ok (.dup, 1) := by decide +kernel
theorem dX11_goesThrough_88 : decode cX11_goesThrough 88 = .ok (.getfield 227, 3) := by decide +kernel
theorem dX11_goesThrough_91 : decode cX11_goesThrough 91 = .ok (.iconst 1, 1) := by decide +kernel
theorem dX11_goesThrough_92 : decode cX11_goesThrough 92 = .ok (.iadd, 1) := by decide +kernel
theorem dX11_goesThrough_93 : decode cX11_goesThrough 93 = .ok (.putfield 227, 3) := by decide +kernel
theorem dX11_goesThrough_96 : decode cX11_goesThrough 96 = .ok (.goto (-89), 3) := by decide +kernel
set_option maxRecDepth 20000 in
theorem ggX11_read_X11_goesThrough : GoodIn wsX11_read wsX11_goesThrough := goodIn_r _ [13, 14, 15, 8, 16, 17, 18, 12, 19, 20, 21, 22, 23, 24, 25, 26, 27, 28, 29, 30, 31, 32, 33, 34, 35, 36, 37, 38, 39, 40, 41, 42, 43, 44, 45, 46, 47, 48, 49, 50, 51, 52, 53, 1, 5, 54, 55, 56, 57, 58, 59, 60, 61, 62, 63, 64, 65, 2, 66, 67, 68, 69, 70, 3, 74, 75, 76, 77, 78, 79, 80, 81, 82, 83, 84, 85, 86, 87, 88, 89, 90, 91, 92, 93, 94, 95, 96, 97, 98, 99, 100, 101, 102, 103, 104, 105, 106, 107, 108, 109, 110, 111, 112] (by decide +kernel) (by decide +kernel)
set_option maxRecDepth 20000 in
theorem gX11_read_X11_goesThrough : GoodIn wsX11_read (wsV RX11 276 RX11 yX11_goesThrough wsX11_goesThrough) := goodIn_app (goodIn_of _ (by decide +kernel)) ggX11_read_X11_goesThrough
set_option maxRecDepth 20000 in
theorem ggX11_read_X11_copies : GoodIn wsX11_read wsX11_copies := goodIn_r _ [73] (by decide +kernel) (by decide +kernel)
set_option maxRecDepth 20000 in
theorem gX11_read_X11_copies : GoodIn wsX11_read (va_wsS RX11 280 yX11_copies wsX11_copies) := goodIn_app (goodIn_of _ (by decide +kernel)) ggX11_read_X11_copies
theorem dX11_read_0 : decode cX11_read 0 = .ok (.aload_n 0, 1) := by decide +kernel
theorem dX11_read_1 : decode cX11_read 1 = .ok (.iconst 0, 1) := by decide +kernel
theorem dX11_read_2 : decode cX11_read 2 = .ok (.invokevirtual 276, 3) := by decide +kernel
theorem dX11_read_5 : decode cX11_read 5 = .ok (.istore_n 1, 1) := by decide +kernel
theorem dX11_read_6 : decode cX11_read 6 = .ok (.iload_n 1, 1) := by decide +kernel
theorem dX11_read_7 : decode cX11_read 7 = .ok (.ifCond .lt 98, 3) := by decide +kernel
theorem dX11_read_10 : decode cX11_read 10 = .ok (.aload_n 0, 1) := by decide +kernel
theorem dX11_read_11 : decode cX11_read 11 = .ok (.getfield 80, 3) := by decide +kernel
theorem dX11_read_14 : decode cX11_read 14 = .ok (.istore_n 2, 1) := by decide +kernel
theorem dX11_read_15 : decode cX11_read 15 = .ok (.aload_n 0, 1) := by decide +kernel
theorem dX11_read_16 : decode cX11_read 16 = .ok (.getfield 87, 3) := by decide +kernel
theorem dX11_read_19 : decode cX11_read 19 = .ok (.istore_n 3, 1) := by decide +kernel
theorem dX11_read_20 : decode cX11_read 20 = .ok (.aload_n 0, 1) := by decide +kernel
theorem dX11_read_21 : decode cX11_read 21 = .ok (.getfield 15, 3) := by decide +kernel
theorem dX11_read_24 : decode cX11_read 24 = .ok (.aload_n 0, 1) := by decide +kernel
theorem dX11_read_25 : decode cX11_read 25 = .ok (.getfield 43, 3) := by decide +kernel
theorem dX11_read_28 : decode cX11_read 28 = .ok (.bipush 7, 2) := by decide +kernel
theorem dX11_read_30 : decode cX11_read 30 = .ok (.invokestatic 280, 3) := by decide +kernel
theorem dX11_read_33 : decode cX11_read 33 = .ok (.aload_n 0, 1) := by decide +kernel
theorem dX11_read_34 : decode cX11_read 34 = .ok (.getfield 19, 3) := by decide +kernel
theorem dX11_read_37 : decode cX11_read 37 = .ok (.aload_n 0, 1) := by decide +kernel
theorem dX11_read_38 : decode cX11_read 38 = .ok (.getfield 46, 3) := by decide +kernel
theorem dX11_read_41 : decode cX11_read 41 = .ok (.bipush 7, 2) := by decide +kernel
theorem dX11_read_43 : decode cX11_read 43 = .ok (.invokestatic 280, 3) := by decide +kernel
theorem dX11_read_46 : decode cX11_read 46 = .ok (.aload_n 0, 1) := by decide +kernel
theorem dX11_read_47 : decode cX11_read 47 = .ok (.iconst 1, 1) := by decide +kernel
theorem dX11_read_48 : decode cX11_read 48 = .ok (.invokevirtual 276, 3) := by decide +kernel
theorem dX11_read_51 : decode cX11_read 51 = .ok (.istore_n 1, 1) := by decide +kernel
theorem dX11_read_52 : decode cX11_read 52 = .ok (.iload_n 1, 1) := by decide +kernel
theorem dX11_read_53 : decode cX11_read 53 = .ok (.ifCond .ge 42, 3) := by decide +kernel
theorem dX11_read_56 : decode cX11_read 56 = .ok (.aload_n 0, 1) := by decide +kernel
theorem dX11_read_57 : decode cX11_read 57 = .ok (.iload_n 2, 1) := by decide +kernel
theorem dX11_read_58 : decode cX11_read 58 = .ok (.putfield 80, 3) := by decide +kernel
theorem dX11_read_61 : decode cX11_read 61 = .ok (.aload_n 0, 1) := by decide +kernel
theorem dX11_read_62 : decode cX11_read 62 = .ok (.iload_n 3, 1) := by decide +kernel
theorem dX11_read_63 : decode cX11_read 63 = .ok (.putfield 87, 3) := by decide +kernel
theorem dX11_read_66 : decode cX11_read 66 = .ok (.aload_n 0, 1) := by decide +kernel
theorem dX11_read_67 : decode cX11_read 67 = .ok (.getfield 43, 3) := by decide +kernel
theorem dX11_read_70 : decode cX11_read 70 = .ok (.aload_n 0, 1) := by decide +kernel
theorem dX11_read_71 : decode cX11_read 71 = .ok (.getfield 15, 3) := by decide +kernel
theorem dX11_read_74 : decode cX11_read 74 = .ok (.bipush 7, 2) := by decide +kernel
theorem dX11_read_76 : decode cX11_read 76 = .ok (.invokestatic 280, 3) := by decide +kernel
theorem dX11_read_79 : decode cX11_read 79 = .ok (.aload_n 0, 1) := by decide +kernel
theorem dX11_read_80 : decode cX11_read 80 = .ok (.getfield 46, 3) := by decide +kernel
theorem dX11_read_83 : decode cX11_read 83 = .ok (.aload_n 0, 1) := by decide +kernel
theorem dX11_read_84 : decode cX11_read 84 = .ok (.getfield 19, 3) := by decide +kernel
theorem dX11_read_87 : decode cX11_read 87 = .ok (.bipush 7, 2) := by decide +kernel
theorem dX11_read_89 : decode cX11_read 89 = .ok (.invokestatic 280, 3) := by decide +kernel
theorem dX11_read_92 : decode cX11_read 92 = .ok (.goto 13, 3) := by decide +kernel
theorem dX11_read_95 : decode cX11_read 95 = .ok (.aload_n 0, 1) := by decide +kernel
theorem dX11_read_96 : decode cX11_read 96 = .ok (.dup, 1) := by decide +kernel
theorem dX11_read_97 : decode cX11_read 97 = .ok (.getfield 128, 3) := by decide +kernel
theorem dX11_read_100 : decode cX11_read 100 = .ok (.iconst 1, 1) := by decide +kernel
theorem dX11_read_101 : decode cX11_read 101 = .ok (.iadd, 1) := by decide +kernel
theorem dX11_read_102 : decode cX11_read 102 = .ok (.putfield 128, 3) := by decide +kernel
theorem dX11_read_105 : decode cX11_read 105 = .ok (.aload_n 0, 1) := by decide +kernel
theorem dX11_read_106 : decode cX11_read 106 = .ok (.iconst 0, 1) := by decide +kernel
theorem dX11_read_107 : decode cX11_read 107 = .ok (.putfield 125, 3) := by decide +kernel
theorem dX11_read_110 : decode cX11_read 110 = .ok (.iload_n 1, 1) := by decide +kernel
theorem dX11_read_111 : decode cX11_read 111 = .ok (.ireturn, 1) := by decide +kernel
theorem dX11_writes_0 : decode cX11_writes 0 = .ok (.aload_n 0, 1) := by decide +kernel
theorem dX11_writes_1 : decode cX11_writes 1 = .ok (.getfield 49, 3) := by decide +kernel
theorem dX11_writes_4 : decode cX11_writes 4 = .ok (.aload_n 0, 1) := by decide +kernel
theorem dX11_writes_5 : decode cX11_writes 5 = .ok (.getfield 284, 3) := by decide +kernel
theorem dX11_writes_8 : decode cX11_writes 8 = .ok (.iload_n 1, 1) := by decide +kernel
theorem dX11_writes_9 : decode cX11_writes 9 = .ok (.iastore, 1) := by decide +kernel
theorem dX11_writes_10 : decode cX11_writes 10 = .ok (.aload_n 0, 1) := by decide +kernel
theorem dX11_writes_11 : decode cX11_writes 11 = .ok (.dup, 1) := by decide +kernel
theorem dX11_writes_12 : decode cX11_writes 12 = .ok (.getfield 284, 3) := by decide +kernel
theorem dX11_writes_15 : decode cX11_writes 15 = .ok (.iconst 1, 1) := by decide +kernel
theorem dX11_writes_16 : decode cX11_writes 16 = .ok (.iadd, 1) := by decide +kernel
theorem dX11_writes_17 : decode cX11_writes 17 = .ok (.putfield 284, 3) := by decide +kernel
theorem dX11_writes_20 : decode cX11_writes 20 = .ok (.return_, 1) := by decide +kernel
set_option maxRecDepth 20000 in
theorem ggX11_writesName_X11_lettersOf : GoodIn wsX11_writesName wsX11_lettersOf := goodIn_r _ [4, 5, 6, 3, 7] (by decide +kernel) (by decide +kernel)
set_option maxRecDepth 20000 in
theorem gX11_writesName_X11_lettersOf : GoodIn wsX11_writesName (va_wsS RX11 111 yX11_lettersOf wsX11_lettersOf) := goodIn_app (goodIn_of _ (by decide +kernel)) ggX11_writesName_X11_lettersOf
set_option maxRecDepth 20000 in
theorem ggX11_writesName_X11_letterOf : GoodIn wsX11_writesName wsX11_letterOf := goodIn_r _ [7] (by decide +kernel) (by decide +kernel)
set_option maxRecDepth 20000 in
theorem gX11_writesName_X11_letterOf : GoodIn wsX11_writesName (va_wsS RX11 104 yX11_letterOf wsX11_letterOf) := goodIn_app (goodIn_of _ (by decide +kernel)) ggX11_writesName_X11_letterOf
set_option maxRecDepth 20000 in
theorem ggX11_writesName_X11_writes : GoodIn wsX11_writesName wsX11_writes := goodIn_r _ [11, 12, 13, 14, 15, 16, 17, 18, 19, 20, 21, 22, 23, 24, 25, 26, 27, 28, 29, 30, 31, 32, 33, 34, 35, 36, 37, 38, 39, 40, 41, 42, 43, 44, 45, 46, 47, 48, 49, 50, 51, 52] (by decide +kernel) (by decide +kernel)
set_option maxRecDepth 20000 in
theorem gX11_writesName_X11_writes : GoodIn wsX11_writesName (wsV RX11 287 RX11 yX11_writes wsX11_writes) := goodIn_app (goodIn_of _ (by decide +kernel)) ggX11_writesName_X11_writes
theorem dX11_writesName_0 : decode cX11_writesName 0 = .ok (.iconst 0, 1) := by decide +kernel
theorem dX11_writesName_1 : decode cX11_writesName 1 = .ok (.istore_n 2, 1) := by decide +kernel
theorem dX11_writesName_2 : decode cX11_writesName 2 = .ok (.iload_n 2, 1) := by decide +kernel
theorem dX11_writesName_3 : decode cX11_writesName 3 = .ok (.iload_n 1, 1) := by decide +kernel
theorem dX11_writesName_4 : decode cX11_writesName 4 = .ok (.invokestatic 111, 3) := by decide +kernel
theorem dX11_writesName_7 : decode cX11_writesName 7 = .ok (.if_icmp .ge 23, 3) := by decide +kernel
theorem dX11_writesName_10 : decode cX11_writesName 10 = .ok (.aload_n 0, 1) := by decide +kernel
theorem dX11_writesName_11 : decode cX11_writesName 11 = .ok (.bipush 97, 2) := by decide +kernel
theorem dX11_writesName_13 : decode cX11_writesName 13 = .ok (.iload_n 1, 1) := by decide +kernel
theorem dX11_writesName_14 : decode cX11_writesName 14 = .ok (.iload_n 2, 1) := by decide +kernel
theorem dX11_writesName_15 : decode cX11_writesName 15 = .ok (.invokestatic 104, 3) := by decide +kernel
theorem dX11_writesName_18 : decode cX11_writesName 18 = .ok (.iadd, 1) := by decide +kernel
theorem dX11_writesName_19 : decode cX11_writesName 19 = .ok (.iconst 1, 1) := by decide +kernel
theorem dX11_writesName_20 : decode cX11_writesName 20 = .ok (.isub, 1) := by decide +kernel
theorem dX11_writesName_21 : decode cX11_writesName 21 = .ok (.invokevirtual 287, 3) := by decide +kernel
theorem dX11_writesName_24 : decode cX11_writesName 24 = .ok (.iinc 2 1, 3) := by decide +kernel
theorem dX11_writesName_27 : decode cX11_writesName 27 = .ok (.goto (-25), 3) := by decide +kernel
theorem dX11_writesName_30 : decode cX11_writesName 30 = .ok (.return_, 1) := by decide +kernel
set_option maxRecDepth 20000 in
theorem ggX11_writesNames_X11_has : GoodIn wsX11_writesNames wsX11_has := goodIn_r _ [6] (by decide +kernel) (by decide +kernel)
set_option maxRecDepth 20000 in
theorem gX11_writesNames_X11_has : GoodIn wsX11_writesNames (va_wsS RX11 114 yX11_has wsX11_has) := goodIn_app (goodIn_of _ (by decide +kernel)) ggX11_writesNames_X11_has
set_option maxRecDepth 20000 in
theorem ggX11_writesNames_X11_writes : GoodIn wsX11_writesNames wsX11_writes := goodIn_r _ [10, 11, 12, 23, 24, 25, 26, 27, 28, 29, 30, 31, 32, 33, 34, 35, 36, 37, 38, 39, 40, 41, 42, 43, 44, 45, 46, 47, 48, 49, 50, 51, 52, 53, 54, 55, 56, 57, 58, 59, 60, 61] (by decide +kernel) (by decide +kernel)
set_option maxRecDepth 20000 in
theorem gX11_writesNames_X11_writes : GoodIn wsX11_writesNames (wsV RX11 287 RX11 yX11_writes wsX11_writes) := goodIn_app (goodIn_of _ (by decide +kernel)) ggX11_writesNames_X11_writes
set_option maxRecDepth 20000 in
theorem ggX11_writesNames_X11_writesName : GoodIn wsX11_writesNames wsX11_writesName := goodIn_r _ [16, 17, 18, 5, 19, 20, 21, 22, 7, 8, 9, 10, 11, 12, 23, 24, 25, 26, 27, 28, 29, 30, 31, 32, 33, 34, 35, 36, 37, 38, 39, 40, 41, 42, 43, 44, 45, 46, 47, 48, 49, 50, 51, 52, 53, 54, 55, 56, 57, 58, 59, 60, 61] (by decide +kernel) (by decide +kernel)
set_option maxRecDepth 20000 in
theorem gX11_writesNames_X11_writesName : GoodIn wsX11_writesNames (wsV RX11 290 RX11 yX11_writesName wsX11_writesName) := goodIn_app (goodIn_of _ (by decide +kernel)) ggX11_writesNames_X11_writesName
theorem dX11_writesNames_0 : decode cX11_writesNames 0 = .ok (.iload_n 1, 1) := by decide +kernel
theorem dX11_writesNames_1 : decode cX11_writesNames 1 = .ok (.istore_n 2, 1) := by decide +kernel
theorem dX11_writesNames_2 : decode cX11_writesNames 2 = .ok (.iload_n 2, 1) := by decide +kernel
theorem dX11_writesNames_3 : decode cX11_writesNames 3 = .ok (.ifCond .eq 92, 3) := by decide +kernel
theorem dX11_writesNames_6 : decode cX11_writesNames 6 = .ok (.iconst (-1), 1) := by decide +kernel
theorem dX11_writesNames_7 : decode cX11_writesNames 7 = .ok (.istore_n 3, 1) := by decide +kernel
theorem dX11_writesNames_8 : decode cX11_writesNames 8 = .ok (.iconst 0, 1) := by decide +kernel
theorem dX11_writesNames_9 : decode cX11_writesNames 9 = .ok (.istore 4, 2) := by decide +kernel
theorem dX11_writesNames_11 : decode cX11_writesNames 11 = .ok (.iload 4, 2) := by decide +kernel
theorem dX11_writesNames_13 : decode cX11_writesNames 13 = .ok (.aload_n 0, 1) := by decide +kernel
theorem dX11_writesNames_14 : decode cX11_writesNames 14 = .ok (.getfield 87, 3) := by decide +kernel
theorem dX11_writesNames_17 : decode cX11_writesNames 17 = .ok (.if_icmp .ge 46, 3) := by decide +kernel
theorem dX11_writesNames_20 : decode cX11_writesNames 20 = .ok (.iload_n 2, 1) := by decide +kernel
theorem dX11_writesNames_21 : decode cX11_writesNames 21 = .ok (.iload 4, 2) := by decide +kernel
theorem dX11_writesNames_23 : decode cX11_writesNames 23 = .ok (.invokestatic 114, 3) := by decide +kernel
theorem dX11_writesNames_26 : decode cX11_writesNames 26 = .ok (.ifCond .eq 29, 3) := by decide +kernel
theorem dX11_writesNames_29 : decode cX11_writesNames 29 = .ok (.iload_n 3, 1) := by decide +kernel
theorem dX11_writesNames_30 : decode cX11_writesNames 30 = .ok (.iconst (-1), 1) := by decide +kernel
theorem dX11_writesNames_31 : decode cX11_writesNames 31 = .ok (.if_icmp .eq 19, 3) := by decide +kernel
theorem dX11_writesNames_34 : decode cX11_writesNames 34 = .ok (.aload_n 0, 1) := by decide +kernel
theorem dX11_writesNames_35 : decode cX11_writesNames 35 = .ok (.getfield 22, 3) := by decide +kernel
theorem dX11_writesNames_38 : decode cX11_writesNames 38 = .ok (.iload 4, 2) := by decide +kernel
theorem dX11_writesNames_40 : decode cX11_writesNames 40 = .ok (.iaload, 1) := by decide +kernel
theorem dX11_writesNames_41 : decode cX11_writesNames 41 = .ok (.aload_n 0, 1) := by decide +kernel
theorem dX11_writesNames_42 : decode cX11_writesNames 42 = .ok (.getfield 22, 3) := by decide +kernel
theorem dX11_writesNames_45 : decode cX11_writesNames 45 = .ok (.iload_n 3, 1) := by decide +kernel
theorem dX11_writesNames_46 : decode cX11_writesNames 46 = .ok (.iaload, 1) := by decide +kernel
theorem dX11_writesNames_47 : decode cX11_writesNames 47 = .ok (.if_icmp .ge 8, 3) := by decide +kernel
theorem dX11_writesNames_50 : decode cX11_writesNames 50 = .ok (.iload 4, 2) := by decide +kernel
theorem dX11_writesNames_52 : decode cX11_writesNames 52 = .ok (.goto 4, 3) := by decide +kernel
theorem dX11_writesNames_55 : decode cX11_writesNames 55 = .ok (.iload_n 3, 1) := by decide +kernel
theorem dX11_writesNames_56 : decode cX11_writesNames 56 = .ok (.istore_n 3, 1) := by decide +kernel
theorem dX11_writesNames_57 : decode cX11_writesNames 57 = .ok (.iinc 4 1, 3) := by decide +kernel
theorem dX11_writesNames_60 : decode cX11_writesNames 60 = .ok (.goto (-49), 3) := by decide +kernel
theorem dX11_writesNames_63 : decode cX11_writesNames 63 = .ok (.iload_n 2, 1) := by decide +kernel
theorem dX11_writesNames_64 : decode cX11_writesNames 64 = .ok (.iload_n 1, 1) := by decide +kernel
theorem dX11_writesNames_65 : decode cX11_writesNames 65 = .ok (.if_icmp .eq 9, 3) := by decide +kernel
theorem dX11_writesNames_68 : decode cX11_writesNames 68 = .ok (.aload_n 0, 1) := by decide +kernel
theorem dX11_writesNames_69 : decode cX11_writesNames 69 = .ok (.bipush 44, 2) := by decide +kernel
theorem dX11_writesNames_71 : decode cX11_writesNames 71 = .ok (.invokevirtual 287, 3) := by decide +kernel
theorem dX11_writesNames_74 : decode cX11_writesNames 74 = .ok (.aload_n 0, 1) := by decide +kernel
theorem dX11_writesNames_75 : decode cX11_writesNames 75 = .ok (.aload_n 0, 1) := by decide +kernel
theorem dX11_writesNames_76 : decode cX11_writesNames 76 = .ok (.getfield 22, 3) := by decide +kernel
theorem dX11_writesNames_79 : decode cX11_writesNames 79 = .ok (.iload_n 3, 1) := by decide +kernel
theorem dX11_writesNames_80 : decode cX11_writesNames 80 = .ok (.iaload, 1) := by decide +kernel
theorem dX11_writesNames_81 : decode cX11_writesNames 81 = .ok (.invokevirtual 290, 3) := by decide +kernel
theorem dX11_writesNames_84 : decode cX11_writesNames 84 = .ok (.iload_n 2, 1) := by decide +kernel
theorem dX11_writesNames_85 : decode cX11_writesNames 85 = .ok (.iconst 1, 1) := by decide +kernel
theorem dX11_writesNames_86 : decode cX11_writesNames 86 = .ok (.iload_n 3, 1) := by decide +kernel
theorem dX11_writesNames_87 : decode cX11_writesNames 87 = .ok (.ishl, 1) := by decide +kernel
theorem dX11_writesNames_88 : decode cX11_writesNames 88 = .ok (.iconst (-1), 1) := by decide +kernel
theorem dX11_writesNames_89 : decode cX11_writesNames 89 = .ok (.ixor, 1) := by decide +kernel
theorem dX11_writesNames_90 : decode cX11_writesNames 90 = .ok (.iand, 1) := by decide +kernel
theorem dX11_writesNames_91 : decode cX11_writesNames 91 = .ok (.istore_n 2, 1) := by decide +kernel
theorem dX11_writesNames_92 : decode cX11_writesNames 92 = .ok (.goto (-90), 3) := by decide +kernel
theorem dX11_writesNames_95 : decode cX11_writesNames 95 = .ok (.return_, 1) := by decide +kernel
set_option maxRecDepth 20000 in
theorem ggX11_papers_X11_writes : GoodIn wsX11_papers wsX11_writes := goodIn_r _ [9, 10, 1, 30, 31, 32, 33, 34, 35, 36, 37, 38, 39, 40, 41, 42, 43, 44, 45, 46, 47, 48, 49, 50, 51, 52, 53, 54, 55, 56, 57, 58, 59, 60, 61, 62, 63, 64, 65, 66, 67, 68] (by decide +kernel) (by decide +kernel)
set_option maxRecDepth 20000 in
theorem gX11_papers_X11_writes : GoodIn wsX11_papers (wsV RX11 287 RX11 yX11_writes wsX11_writes) := goodIn_app (goodIn_of _ (by decide +kernel)) ggX11_papers_X11_writes
set_option maxRecDepth 20000 in
theorem ggX11_papers_X11_writesNames : GoodIn wsX11_papers wsX11_writesNames := goodIn_r _ [14, 15, 16, 17, 18, 8, 19, 5, 6, 7, 9, 10, 1, 20, 21, 22, 23, 24, 25, 26, 27, 28, 29, 30, 31, 32, 33, 34, 35, 36, 37, 38, 39, 40, 41, 42, 43, 44, 45, 46, 47, 48, 49, 50, 51, 52, 53, 54, 55, 56, 57, 58, 59, 60, 61, 62, 63, 64, 65, 66, 67, 68] (by decide +kernel) (by decide +kernel)
set_option maxRecDepth 20000 in
theorem gX11_papers_X11_writesNames : GoodIn wsX11_papers (wsV RX11 293 RX11 yX11_writesNames wsX11_writesNames) := goodIn_app (goodIn_of _ (by decide +kernel)) ggX11_papers_X11_writesNames
theorem dX11_papers_0 : decode cX11_papers 0 = .ok (.aload_n 0, 1) := by decide +kernel
theorem dX11_papers_1 : decode cX11_papers 1 = .ok (.iconst 0, 1) := by decide +kernel
theorem dX11_papers_2 : decode cX11_papers 2 = .ok (.putfield 284, 3) := by decide +kernel
theorem dX11_papers_5 : decode cX11_papers 5 = .ok (.iconst 0, 1) := by decide +kernel
theorem dX11_papers_6 : decode cX11_papers 6 = .ok (.istore_n 1, 1) := by decide +kernel
theorem dX11_papers_7 : decode cX11_papers 7 = .ok (.iload_n 1, 1) := by decide +kernel
theorem dX11_papers_8 : decode cX11_papers 8 = .ok (.aload_n 0, 1) := by decide +kernel
theorem dX11_papers_9 : decode cX11_papers 9 = .ok (.getfield 80, 3) := by decide +kernel
theorem dX11_papers_12 : decode cX11_papers 12 = .ok (.if_icmp .ge 108, 3) := by decide +kernel
theorem dX11_papers_15 : decode cX11_papers 15 = .ok (.iload_n 1, 1) := by decide +kernel
theorem dX11_papers_16 : decode cX11_papers 16 = .ok (.ifCond .le 9, 3) := by decide +kernel
theorem dX11_papers_19 : decode cX11_papers 19 = .ok (.aload_n 0, 1) := by decide +kernel
theorem dX11_papers_20 : decode cX11_papers 20 = .ok (.bipush 59, 2) := by decide +kernel
theorem dX11_papers_22 : decode cX11_papers 22 = .ok (.invokevirtual 287, 3) := by decide +kernel
theorem dX11_papers_25 : decode cX11_papers 25 = .ok (.aload_n 0, 1) := by decide +kernel
theorem dX11_papers_26 : decode cX11_papers 26 = .ok (.getfield 15, 3) := by decide +kernel
theorem dX11_papers_29 : decode cX11_papers 29 = .ok (.iload_n 1, 1) := by decide +kernel
theorem dX11_papers_30 : decode cX11_papers 30 = .ok (.iaload, 1) := by decide +kernel
theorem dX11_papers_31 : decode cX11_papers 31 = .ok (.bipush 99, 2) := by decide +kernel
theorem dX11_papers_33 : decode cX11_papers 33 = .ok (.if_icmp .le 19, 3) := by decide +kernel
theorem dX11_papers_36 : decode cX11_papers 36 = .ok (.aload_n 0, 1) := by decide +kernel
theorem dX11_papers_37 : decode cX11_papers 37 = .ok (.bipush 48, 2) := by decide +kernel
theorem dX11_papers_39 : decode cX11_papers 39 = .ok (.aload_n 0, 1) := by decide +kernel
theorem dX11_papers_40 : decode cX11_papers 40 = .ok (.getfield 15, 3) := by decide +kernel
theorem dX11_papers_43 : decode cX11_papers 43 = .ok (.iload_n 1, 1) := by decide +kernel
theorem dX11_papers_44 : decode cX11_papers 44 = .ok (.iaload, 1) := by decide +kernel
theorem dX11_papers_45 : decode cX11_papers 45 = .ok (.bipush 100, 2) := by decide +kernel
theorem dX11_papers_47 : decode cX11_papers 47 = .ok (.idiv, 1) := by decide +kernel
theorem dX11_papers_48 : decode cX11_papers 48 = .ok (.iadd, 1) := by decide +kernel
theorem dX11_papers_49 : decode cX11_papers 49 = .ok (.invokevirtual 287, 3) := by decide +kernel
theorem dX11_papers_52 : decode cX11_papers 52 = .ok (.aload_n 0, 1) := by decide +kernel
theorem dX11_papers_53 : decode cX11_papers 53 = .ok (.getfield 15, 3) := by decide +kernel
theorem dX11_papers_56 : decode cX11_papers 56 = .ok (.iload_n 1, 1) := by decide +kernel
theorem dX11_papers_57 : decode cX11_papers 57 = .ok (.iaload, 1) := by decide +kernel
theorem dX11_papers_58 : decode cX11_papers 58 = .ok (.bipush 9, 2) := by decide +kernel
theorem dX11_papers_60 : decode cX11_papers 60 = .ok (.if_icmp .le 22, 3) := by decide +kernel
theorem dX11_papers_63 : decode cX11_papers 63 = .ok (.aload_n 0, 1) := by decide +kernel
theorem dX11_papers_64 : decode cX11_papers 64 = .ok (.bipush 48, 2) := by decide +kernel
theorem dX11_papers_66 : decode cX11_papers 66 = .ok (.aload_n 0, 1) := by decide +kernel
theorem dX11_papers_67 : decode cX11_papers 67 = .ok (.getfield 15, 3) := by decide +kernel
theorem dX11_papers_70 : decode cX11_papers 70 = .ok (.iload_n 1, 1) := by decide +kernel
theorem dX11_papers_71 : decode cX11_papers 71 = .ok (.iaload, 1) := by decide +kernel
theorem dX11_papers_72 : decode cX11_papers 72 = .ok (.bipush 10, 2) := by decide +kernel
theorem dX11_papers_74 : decode cX11_papers 74 = .ok (.idiv, 1) := by decide +kernel
theorem dX11_papers_75 : decode cX11_papers 75 = .ok (.bipush 10, 2) := by decide +kernel
theorem dX11_papers_77 : decode cX11_papers 77 = .ok (.irem, 1) := by decide +kernel
theorem dX11_papers_78 : decode cX11_papers 78 = .ok (.iadd, 1) := by decide +kernel
theorem dX11_papers_79 : decode cX11_papers 79 = .ok (.invokevirtual 287, 3) := by decide +kernel
theorem dX11_papers_82 : decode cX11_papers 82 = .ok (.aload_n 0, 1) := by decide +kernel
theorem dX11_papers_83 : decode cX11_papers 83 = .ok (.bipush 48, 2) := by decide +kernel
theorem dX11_papers_85 : decode cX11_papers 85 = .ok (.aload_n 0, 1) := by decide +kernel
theorem dX11_papers_86 : decode cX11_papers 86 = .ok (.getfield 15, 3) := by decide +kernel
theorem dX11_papers_89 : decode cX11_papers 89 = .ok (.iload_n 1, 1) := by decide +kernel
theorem dX11_papers_90 : decode cX11_papers 90 = .ok (.iaload, 1) := by decide +kernel
theorem dX11_papers_91 : decode cX11_papers 91 = .ok (.bipush 10, 2) := by decide +kernel
theorem dX11_papers_93 : decode cX11_papers 93 = .ok (.irem, 1) := by decide +kernel
theorem dX11_papers_94 : decode cX11_papers 94 = .ok (.iadd, 1) := by decide +kernel
theorem dX11_papers_95 : decode cX11_papers 95 = .ok (.invokevirtual 287, 3) := by decide +kernel
theorem dX11_papers_98 : decode cX11_papers 98 = .ok (.aload_n 0, 1) := by decide +kernel
theorem dX11_papers_99 : decode cX11_papers 99 = .ok (.bipush 58, 2) := by decide +kernel
theorem dX11_papers_101 : decode cX11_papers 101 = .ok (.invokevirtual 287, 3) := by decide +kernel
theorem dX11_papers_104 : decode cX11_papers 104 = .ok (.aload_n 0, 1) := by decide +kernel
theorem dX11_papers_105 : decode cX11_papers 105 = .ok (.aload_n 0, 1) := by decide +kernel
theorem dX11_papers_106 : decode cX11_papers 106 = .ok (.getfield 19, 3) := by decide +kernel
theorem dX11_papers_109 : decode cX11_papers 109 = .ok (.iload_n 1, 1) := by decide +kernel
theorem dX11_papers_110 : decode cX11_papers 110 = .ok (.iaload, 1) := by decide +kernel
theorem dX11_papers_111 : decode cX11_papers 111 = .ok (.invokevirtual 293, 3) := by decide +kernel
theorem dX11_papers_114 : decode cX11_papers 114 = .ok (.iinc 1 1, 3) := by decide +kernel
theorem dX11_papers_117 : decode cX11_papers 117 = .ok (.goto (-110), 3) := by decide +kernel
theorem dX11_papers_120 : decode cX11_papers 120 = .ok (.return_, 1) := by decide +kernel
set_option maxRecDepth 20000 in
theorem ggX11_spell_X11_papers : GoodIn wsX11_spell wsX11_papers := goodIn_r _ [6, 1, 7, 8, 9, 10, 11, 12, 5, 13, 14, 15, 16, 17, 18, 19, 20, 21, 22, 23, 24, 25, 26, 27, 28, 29, 30, 31, 32, 33, 34, 35, 36, 37, 38, 39, 40, 41, 42, 43, 44, 45, 46, 47, 48, 49, 50, 51, 52, 53, 54, 55, 56, 57, 58, 59, 60, 61, 62, 63, 64, 65, 66, 67, 68, 69, 70, 71, 72] (by decide +kernel) (by decide +kernel)
set_option maxRecDepth 20000 in
theorem gX11_spell_X11_papers : GoodIn wsX11_spell (wsV RX11 296 RX11 yX11_papers wsX11_papers) := goodIn_app (goodIn_of _ (by decide +kernel)) ggX11_spell_X11_papers
theorem dX11_spell_0 : decode cX11_spell 0 = .ok (.aload_n 0, 1) := by decide +kernel
theorem dX11_spell_1 : decode cX11_spell 1 = .ok (.invokevirtual 296, 3) := by decide +kernel
theorem dX11_spell_4 : decode cX11_spell 4 = .ok (.aload_n 0, 1) := by decide +kernel
theorem dX11_spell_5 : decode cX11_spell 5 = .ok (.getfield 284, 3) := by decide +kernel
theorem dX11_spell_8 : decode cX11_spell 8 = .ok (.ireturn, 1) := by decide +kernel
set_option maxRecDepth 20000 in
theorem ggX11_paper_X11_papers : GoodIn wsX11_paper wsX11_papers := goodIn_r _ [7, 1, 8, 9, 10, 11, 12, 13, 6, 14, 2, 15, 16, 17, 18, 19, 20, 21, 22, 23, 24, 25, 26, 27, 28, 29, 30, 31, 32, 33, 37, 38, 39, 40, 41, 42, 43, 44, 45, 46, 47, 48, 49, 50, 51, 52, 53, 54, 55, 56, 57, 58, 59, 60, 61, 62, 63, 64, 65, 66, 67, 68, 69, 70, 71, 72, 73, 74, 75] (by decide +kernel) (by decide +kernel)
set_option maxRecDepth 20000 in
theorem gX11_paper_X11_papers : GoodIn wsX11_paper (wsV RX11 296 RX11 yX11_papers wsX11_papers) := goodIn_app (goodIn_of _ (by decide +kernel)) ggX11_paper_X11_papers
set_option maxRecDepth 20000 in
theorem ggX11_paper_X11_in : GoodIn wsX11_paper wsX11_in := goodIn_r _ [36] (by decide +kernel) (by decide +kernel)
set_option maxRecDepth 20000 in
theorem gX11_paper_X11_in : GoodIn wsX11_paper (va_wsS RX11 83 yX11_in wsX11_in) := goodIn_app (goodIn_of _ (by decide +kernel)) ggX11_paper_X11_in
theorem dX11_paper_0 : decode cX11_paper 0 = .ok (.aload_n 0, 1) := by decide +kernel
theorem dX11_paper_1 : decode cX11_paper 1 = .ok (.invokevirtual 296, 3) := by decide +kernel
theorem dX11_paper_4 : decode cX11_paper 4 = .ok (.iload_n 1, 1) := by decide +kernel
theorem dX11_paper_5 : decode cX11_paper 5 = .ok (.iconst 0, 1) := by decide +kernel
theorem dX11_paper_6 : decode cX11_paper 6 = .ok (.aload_n 0, 1) := by decide +kernel
theorem dX11_paper_7 : decode cX11_paper 7 = .ok (.getfield 284, 3) := by decide +kernel
theorem dX11_paper_10 : decode cX11_paper 10 = .ok (.iconst 1, 1) := by decide +kernel
theorem dX11_paper_11 : decode cX11_paper 11 = .ok (.isub, 1) := by decide +kernel
theorem dX11_paper_12 : decode cX11_paper 12 = .ok (.invokestatic 83, 3) := by decide +kernel
theorem dX11_paper_15 : decode cX11_paper 15 = .ok (.ifCond .eq 12, 3) := by decide +kernel
theorem dX11_paper_18 : decode cX11_paper 18 = .ok (.aload_n 0, 1) := by decide +kernel
theorem dX11_paper_19 : decode cX11_paper 19 = .ok (.getfield 49, 3) := by decide +kernel
theorem dX11_paper_22 : decode cX11_paper 22 = .ok (.iload_n 1, 1) := by decide +kernel
theorem dX11_paper_23 : decode cX11_paper 23 = .ok (.iaload, 1) := by decide +kernel
theorem dX11_paper_24 : decode cX11_paper 24 = .ok (.goto 4, 3) := by decide +kernel
theorem dX11_paper_27 : decode cX11_paper 27 = .ok (.iconst (-1), 1) := by decide +kernel
theorem dX11_paper_28 : decode cX11_paper 28 = .ok (.ireturn, 1) := by decide +kernel
set_option maxRecDepth 20000 in
theorem ggX11_isTray_X11_in : GoodIn wsX11_isTray wsX11_in := goodIn_r _ [4] (by decide +kernel) (by decide +kernel)
set_option maxRecDepth 20000 in
theorem gX11_isTray_X11_in : GoodIn wsX11_isTray (va_wsS RX11 83 yX11_in wsX11_in) := goodIn_app (goodIn_of _ (by decide +kernel)) ggX11_isTray_X11_in
theorem dX11_isTray_0 : decode cX11_isTray 0 = .ok (.iload_n 0, 1) := by decide +kernel
theorem dX11_isTray_1 : decode cX11_isTray 1 = .ok (.iconst 0, 1) := by decide +kernel
theorem dX11_isTray_2 : decode cX11_isTray 2 = .ok (.iconst 3, 1) := by decide +kernel
theorem dX11_isTray_3 : decode cX11_isTray 3 = .ok (.invokestatic 83, 3) := by decide +kernel
theorem dX11_isTray_6 : decode cX11_isTray 6 = .ok (.ireturn, 1) := by decide +kernel
set_option maxRecDepth 20000 in
theorem ggX11_tray_X11_isTray : GoodIn wsX11_tray wsX11_isTray := goodIn_r _ [6, 7, 8, 5, 9] (by decide +kernel) (by decide +kernel)
set_option maxRecDepth 20000 in
theorem gX11_tray_X11_isTray : GoodIn wsX11_tray (va_wsS RX11 299 yX11_isTray wsX11_isTray) := goodIn_app (goodIn_of _ (by decide +kernel)) ggX11_tray_X11_isTray
set_option maxRecDepth 20000 in
theorem ggX11_tray_X11_in : GoodIn wsX11_tray wsX11_in := goodIn_r _ [9] (by decide +kernel) (by decide +kernel)
set_option maxRecDepth 20000 in
theorem gX11_tray_X11_in : GoodIn wsX11_tray (va_wsS RX11 83 yX11_in wsX11_in) := goodIn_app (goodIn_of _ (by decide +kernel)) ggX11_tray_X11_in
theorem dX11_tray_0 : decode cX11_tray 0 = .ok (.iload_n 1, 1) := by decide +kernel
theorem dX11_tray_1 : decode cX11_tray 1 = .ok (.invokestatic 299, 3) := by decide +kernel
theorem dX11_tray_4 : decode cX11_tray 4 = .ok (.ifCond .ne 5, 3) := by decide +kernel
theorem dX11_tray_7 : decode cX11_tray 7 = .ok (.iconst (-1), 1) := by decide +kernel
theorem dX11_tray_8 : decode cX11_tray 8 = .ok (.ireturn, 1) := by decide +kernel
theorem dX11_tray_9 : decode cX11_tray 9 = .ok (.iload_n 2, 1) := by decide +kernel
theorem dX11_tray_10 : decode cX11_tray 10 = .ok (.iconst 0, 1) := by decide +kernel
theorem dX11_tray_11 : decode cX11_tray 11 = .ok (.iconst 1, 1) := by decide +kernel
theorem dX11_tray_12 : decode cX11_tray 12 = .ok (.invokestatic 83, 3) := by decide +kernel
theorem dX11_tray_15 : decode cX11_tray 15 = .ok (.ifCond .ne 6, 3) := by decide +kernel
theorem dX11_tray_18 : decode cX11_tray 18 = .ok (.bipush (-2), 2) := by decide +kernel
theorem dX11_tray_20 : decode cX11_tray 20 = .ok (.ireturn, 1) := by decide +kernel
theorem dX11_tray_21 : decode cX11_tray 21 = .ok (.aload_n 0, 1) := by decide +kernel
theorem dX11_tray_22 : decode cX11_tray 22 = .ok (.getfield 52, 3) := by decide +kernel
theorem dX11_tray_25 : decode cX11_tray 25 = .ok (.iload_n 1, 1) := by decide +kernel
theorem dX11_tray_26 : decode cX11_tray 26 = .ok (.iload_n 2, 1) := by decide +kernel
theorem dX11_tray_27 : decode cX11_tray 27 = .ok (.iconst 1, 1) := by decide +kernel
theorem dX11_tray_28 : decode cX11_tray 28 = .ok (.if_icmp .ne 7, 3) := by decide +kernel
theorem dX11_tray_31 : decode cX11_tray 31 = .ok (.iconst 1, 1) := by decide +kernel
theorem dX11_tray_32 : decode cX11_tray 32 = .ok (.goto 4, 3) := by decide +kernel
theorem dX11_tray_35 : decode cX11_tray 35 = .ok (.iconst 0, 1) := by decide +kernel
theorem dX11_tray_36 : decode cX11_tray 36 = .ok (.bastore, 1) := by decide +kernel
theorem dX11_tray_37 : decode cX11_tray 37 = .ok (.aload_n 0, 1) := by decide +kernel
theorem dX11_tray_38 : decode cX11_tray 38 = .ok (.getfield 56, 3) := by decide +kernel
theorem dX11_tray_41 : decode cX11_tray 41 = .ok (.iload_n 1, 1) := by decide +kernel
theorem dX11_tray_42 : decode cX11_tray 42 = .ok (.iconst 0, 1) := by decide +kernel
theorem dX11_tray_43 : decode cX11_tray 43 = .ok (.iastore, 1) := by decide +kernel
theorem dX11_tray_44 : decode cX11_tray 44 = .ok (.iconst 1, 1) := by decide +kernel
theorem dX11_tray_45 : decode cX11_tray 45 = .ok (.ireturn, 1) := by decide +kernel
theorem dX11_placeIn_0 : decode cX11_placeIn 0 = .ok (.sipush 300, 3) := by decide +kernel
theorem dX11_placeIn_3 : decode cX11_placeIn 3 = .ok (.iload_n 1, 1) := by decide +kernel
theorem dX11_placeIn_4 : decode cX11_placeIn 4 = .ok (.imul, 1) := by decide +kernel
theorem dX11_placeIn_5 : decode cX11_placeIn 5 = .ok (.istore_n 3, 1) := by decide +kernel
theorem dX11_placeIn_6 : decode cX11_placeIn 6 = .ok (.iload_n 3, 1) := by decide +kernel
theorem dX11_placeIn_7 : decode cX11_placeIn 7 = .ok (.sipush 300, 3) := by decide +kernel
theorem dX11_placeIn_10 : decode cX11_placeIn 10 = .ok (.iload_n 1, 1) := by decide +kernel
theorem dX11_placeIn_11 : decode cX11_placeIn 11 = .ok (.imul, 1) := by decide +kernel
theorem dX11_placeIn_12 : decode cX11_placeIn 12 = .ok (.aload_n 0, 1) := by decide +kernel
theorem dX11_placeIn_13 : decode cX11_placeIn 13 = .ok (.getfield 56, 3) := by decide +kernel
theorem dX11_placeIn_16 : decode cX11_placeIn 16 = .ok (.iload_n 1, 1) := by decide +kernel
theorem dX11_placeIn_17 : decode cX11_placeIn 17 = .ok (.iaload, 1) := by decide +kernel
theorem dX11_placeIn_18 : decode cX11_placeIn 18 = .ok (.iadd, 1) := by decide +kernel
theorem dX11_placeIn_19 : decode cX11_placeIn 19 = .ok (.if_icmp .ge 21, 3) := by decide +kernel
theorem dX11_placeIn_22 : decode cX11_placeIn 22 = .ok (.aload_n 0, 1) := by decide +kernel
theorem dX11_placeIn_23 : decode cX11_placeIn 23 = .ok (.getfield 59, 3) := by decide +kernel
theorem dX11_placeIn_26 : decode cX11_placeIn 26 = .ok (.iload_n 3, 1) := by decide +kernel
theorem dX11_placeIn_27 : decode cX11_placeIn 27 = .ok (.iaload, 1) := by decide +kernel
theorem dX11_placeIn_28 : decode cX11_placeIn 28 = .ok (.iload_n 2, 1) := by decide +kernel
theorem dX11_placeIn_29 : decode cX11_placeIn 29 = .ok (.if_icmp .ne 5, 3) := by decide +kernel
theorem dX11_placeIn_32 : decode cX11_placeIn 32 = .ok (.iload_n 3, 1) := by decide +kernel
theorem dX11_placeIn_33 : decode cX11_placeIn 33 = .ok (.ireturn, 1) := by decide +kernel
theorem dX11_placeIn_34 : decode cX11_placeIn 34 = .ok (.iinc 3 1, 3) := by decide +kernel
theorem dX11_placeIn_37 : decode cX11_placeIn 37 = .ok (.goto (-31), 3) := by decide +kernel
theorem dX11_placeIn_40 : decode cX11_placeIn 40 = .ok (.iconst (-1), 1) := by decide +kernel
theorem dX11_placeIn_41 : decode cX11_placeIn 41 = .ok (.ireturn, 1) := by decide +kernel
set_option maxRecDepth 20000 in
theorem ggX11_lays_X11_placeIn : GoodIn wsX11_lays wsX11_placeIn := goodIn_r _ [8, 1, 2, 9, 10, 11, 12, 13, 14, 15, 16, 17, 18, 19, 20, 21, 22, 23, 24, 25, 26, 27, 28, 29, 30, 31, 32, 33, 34, 35, 36, 37, 38, 39, 40, 41, 42, 43, 44, 45, 46, 47] (by decide +kernel) (by decide +kernel)
set_option maxRecDepth 20000 in
theorem gX11_lays_X11_placeIn : GoodIn wsX11_lays (wsV RX11 302 RX11 yX11_placeIn wsX11_placeIn) := goodIn_app (goodIn_of _ (by decide +kernel)) ggX11_lays_X11_placeIn
theorem dX11_lays_0 : decode cX11_lays 0 = .ok (.aload_n 0, 1) := by decide +kernel
theorem dX11_lays_1 : decode cX11_lays 1 = .ok (.iload_n 1, 1) := by decide +kernel
theorem dX11_lays_2 : decode cX11_lays 2 = .ok (.iload_n 2, 1) := by decide +kernel
theorem dX11_lays_3 : decode cX11_lays 3 = .ok (.invokevirtual 302, 3) := by decide +kernel
theorem dX11_lays_6 : decode cX11_lays 6 = .ok (.istore_n 3, 1) := by decide +kernel
theorem dX11_lays_7 : decode cX11_lays 7 = .ok (.iload_n 3, 1) := by decide +kernel
theorem dX11_lays_8 : decode cX11_lays 8 = .ok (.iconst (-1), 1) := by decide +kernel
theorem dX11_lays_9 : decode cX11_lays 9 = .ok (.if_icmp .ne 40, 3) := by decide +kernel
theorem dX11_lays_12 : decode cX11_lays 12 = .ok (.sipush 300, 3) := by decide +kernel
theorem dX11_lays_15 : decode cX11_lays 15 = .ok (.iload_n 1, 1) := by decide +kernel
theorem dX11_lays_16 : decode cX11_lays 16 = .ok (.imul, 1) := by decide +kernel
theorem dX11_lays_17 : decode cX11_lays 17 = .ok (.aload_n 0, 1) := by decide +kernel
theorem dX11_lays_18 : decode cX11_lays 18 = .ok (.getfield 56, 3) := by decide +kernel
theorem dX11_lays_21 : decode cX11_lays 21 = .ok (.iload_n 1, 1) := by decide +kernel
theorem dX11_lays_22 : decode cX11_lays 22 = .ok (.iaload, 1) := by decide +kernel
theorem dX11_lays_23 : decode cX11_lays 23 = .ok (.iadd, 1) := by decide +kernel
theorem dX11_lays_24 : decode cX11_lays 24 = .ok (.istore_n 3, 1) := by decide +kernel
theorem dX11_lays_25 : decode cX11_lays 25 = .ok (.aload_n 0, 1) := by decide +kernel
theorem dX11_lays_26 : decode cX11_lays 26 = .ok (.getfield 59, 3) := by decide +kernel
theorem dX11_lays_29 : decode cX11_lays 29 = .ok (.iload_n 3, 1) := by decide +kernel
theorem dX11_lays_30 : decode cX11_lays 30 = .ok (.iload_n 2, 1) := by decide +kernel
theorem dX11_lays_31 : decode cX11_lays 31 = .ok (.iastore, 1) := by decide +kernel
theorem dX11_lays_32 : decode cX11_lays 32 = .ok (.aload_n 0, 1) := by decide +kernel
theorem dX11_lays_33 : decode cX11_lays 33 = .ok (.getfield 62, 3) := by decide +kernel
theorem dX11_lays_36 : decode cX11_lays 36 = .ok (.iload_n 3, 1) := by decide +kernel
theorem dX11_lays_37 : decode cX11_lays 37 = .ok (.iconst 0, 1) := by decide +kernel
theorem dX11_lays_38 : decode cX11_lays 38 = .ok (.iastore, 1) := by decide +kernel
theorem dX11_lays_39 : decode cX11_lays 39 = .ok (.aload_n 0, 1) := by decide +kernel
theorem dX11_lays_40 : decode cX11_lays 40 = .ok (.getfield 56, 3) := by decide +kernel
theorem dX11_lays_43 : decode cX11_lays 43 = .ok (.iload_n 1, 1) := by decide +kernel
theorem dX11_lays_44 : decode cX11_lays 44 = .ok (.dup2, 1) := by decide +kernel
theorem dX11_lays_45 : decode cX11_lays 45 = .ok (.iaload, 1) := by decide +kernel
theorem dX11_lays_46 : decode cX11_lays 46 = .ok (.iconst 1, 1) := by decide +kernel
theorem dX11_lays_47 : decode cX11_lays 47 = .ok (.iadd, 1) := by decide +kernel
theorem dX11_lays_48 : decode cX11_lays 48 = .ok (.iastore, 1) := by decide +kernel
theorem dX11_lays_49 : decode cX11_lays 49 = .ok (.aload_n 0, 1) := by decide +kernel
theorem dX11_lays_50 : decode cX11_lays 50 = .ok (.getfield 62, 3) := by decide +kernel
theorem dX11_lays_53 : decode cX11_lays 53 = .ok (.iload_n 3, 1) := by decide +kernel
theorem dX11_lays_54 : decode cX11_lays 54 = .ok (.dup2, 1) := by decide +kernel
theorem dX11_lays_55 : decode cX11_lays 55 = .ok (.iaload, 1) := by decide +kernel
theorem dX11_lays_56 : decode cX11_lays 56 = .ok (.iconst 1, 1) := by decide +kernel
theorem dX11_lays_57 : decode cX11_lays 57 = .ok (.iadd, 1) := by decide +kernel
theorem dX11_lays_58 : decode cX11_lays 58 = .ok (.iastore, 1) := by decide +kernel
theorem dX11_lays_59 : decode cX11_lays 59 = .ok (.return_, 1) := by decide +kernel
set_option maxRecDepth 20000 in
theorem ggX11_lay_X11_isTray : GoodIn wsX11_lay wsX11_isTray := goodIn_r _ [9, 10, 11, 8, 12] (by decide +kernel) (by decide +kernel)
set_option maxRecDepth 20000 in
theorem gX11_lay_X11_isTray : GoodIn wsX11_lay (va_wsS RX11 299 yX11_isTray wsX11_isTray) := goodIn_app (goodIn_of _ (by decide +kernel)) ggX11_lay_X11_isTray
set_option maxRecDepth 20000 in
theorem ggX11_lay_X11_isGrave : GoodIn wsX11_lay wsX11_isGrave := goodIn_r _ [16, 17, 10, 11, 8, 12, 31, 32, 33, 34, 35, 36, 37, 38, 39, 40, 41, 42, 43, 44, 45, 46, 47, 48, 49, 50, 51, 52, 53, 54, 55, 56, 57, 58, 59, 60, 61, 62, 63, 64, 65, 66, 67, 68, 69] (by decide +kernel) (by decide +kernel)
set_option maxRecDepth 20000 in
theorem gX11_lay_X11_isGrave : GoodIn wsX11_lay (wsV RX11 90 RX11 yX11_isGrave wsX11_isGrave) := goodIn_app (goodIn_of _ (by decide +kernel)) ggX11_lay_X11_isGrave
set_option maxRecDepth 20000 in
theorem ggX11_lay_X11_has : GoodIn wsX11_lay wsX11_has := goodIn_r _ [20] (by decide +kernel) (by decide +kernel)
set_option maxRecDepth 20000 in
theorem gX11_lay_X11_has : GoodIn wsX11_lay (va_wsS RX11 114 yX11_has wsX11_has) := goodIn_app (goodIn_of _ (by decide +kernel)) ggX11_lay_X11_has
set_option maxRecDepth 20000 in
theorem ggX11_lay_X11_lays : GoodIn wsX11_lay wsX11_lays := goodIn_r _ [24, 5, 25, 26, 27, 28, 29, 8, 30, 31, 32, 33, 34, 35, 36, 37, 38, 39, 40, 41, 42, 43, 44, 45, 46, 47, 48, 49, 50, 51, 52, 53, 54, 55, 56, 57, 58, 59, 60, 61, 62, 63, 64, 65, 66, 67, 68, 69] (by decide +kernel) (by decide +kernel)
set_option maxRecDepth 20000 in
theorem gX11_lay_X11_lays : GoodIn wsX11_lay (wsV RX11 305 RX11 yX11_lays wsX11_lays) := goodIn_app (goodIn_of _ (by decide +kernel)) ggX11_lay_X11_lays
theorem dX11_lay_0 : decode cX11_lay 0 = .ok (.iload_n 1, 1) := by decide +kernel
theorem dX11_lay_1 : decode cX11_lay 1 = .ok (.invokestatic 299, 3) := by decide +kernel
theorem dX11_lay_4 : decode cX11_lay 4 = .ok (.ifCond .eq 11, 3) := by decide +kernel
theorem dX11_lay_7 : decode cX11_lay 7 = .ok (.aload_n 0, 1) := by decide +kernel
theorem dX11_lay_8 : decode cX11_lay 8 = .ok (.iload_n 2, 1) := by decide +kernel
theorem dX11_lay_9 : decode cX11_lay 9 = .ok (.invokevirtual 90, 3) := by decide +kernel
theorem dX11_lay_12 : decode cX11_lay 12 = .ok (.ifCond .ne 5, 3) := by decide +kernel
theorem dX11_lay_15 : decode cX11_lay 15 = .ok (.iconst (-1), 1) := by decide +kernel
theorem dX11_lay_16 : decode cX11_lay 16 = .ok (.ireturn, 1) := by decide +kernel
theorem dX11_lay_17 : decode cX11_lay 17 = .ok (.aload_n 0, 1) := by decide +kernel
theorem dX11_lay_18 : decode cX11_lay 18 = .ok (.getfield 52, 3) := by decide +kernel
theorem dX11_lay_21 : decode cX11_lay 21 = .ok (.iload_n 1, 1) := by decide +kernel
theorem dX11_lay_22 : decode cX11_lay 22 = .ok (.baload, 1) := by decide +kernel
theorem dX11_lay_23 : decode cX11_lay 23 = .ok (.ifCond .ne 6, 3) := by decide +kernel
theorem dX11_lay_26 : decode cX11_lay 26 = .ok (.bipush (-11), 2) := by decide +kernel
theorem dX11_lay_28 : decode cX11_lay 28 = .ok (.ireturn, 1) := by decide +kernel
theorem dX11_lay_29 : decode cX11_lay 29 = .ok (.iconst 0, 1) := by decide +kernel
theorem dX11_lay_30 : decode cX11_lay 30 = .ok (.istore_n 3, 1) := by decide +kernel
theorem dX11_lay_31 : decode cX11_lay 31 = .ok (.iload_n 3, 1) := by decide +kernel
theorem dX11_lay_32 : decode cX11_lay 32 = .ok (.aload_n 0, 1) := by decide +kernel
theorem dX11_lay_33 : decode cX11_lay 33 = .ok (.getfield 87, 3) := by decide +kernel
theorem dX11_lay_36 : decode cX11_lay 36 = .ok (.if_icmp .ge 33, 3) := by decide +kernel
theorem dX11_lay_39 : decode cX11_lay 39 = .ok (.aload_n 0, 1) := by decide +kernel
theorem dX11_lay_40 : decode cX11_lay 40 = .ok (.getfield 19, 3) := by decide +kernel
theorem dX11_lay_43 : decode cX11_lay 43 = .ok (.iload_n 2, 1) := by decide +kernel
theorem dX11_lay_44 : decode cX11_lay 44 = .ok (.iaload, 1) := by decide +kernel
theorem dX11_lay_45 : decode cX11_lay 45 = .ok (.iload_n 3, 1) := by decide +kernel
theorem dX11_lay_46 : decode cX11_lay 46 = .ok (.invokestatic 114, 3) := by decide +kernel
theorem dX11_lay_49 : decode cX11_lay 49 = .ok (.ifCond .eq 14, 3) := by decide +kernel
theorem dX11_lay_52 : decode cX11_lay 52 = .ok (.aload_n 0, 1) := by decide +kernel
theorem dX11_lay_53 : decode cX11_lay 53 = .ok (.iload_n 1, 1) := by decide +kernel
theorem dX11_lay_54 : decode cX11_lay 54 = .ok (.aload_n 0, 1) := by decide +kernel
theorem dX11_lay_55 : decode cX11_lay 55 = .ok (.getfield 22, 3) := by decide +kernel
theorem dX11_lay_58 : decode cX11_lay 58 = .ok (.iload_n 3, 1) := by decide +kernel
theorem dX11_lay_59 : decode cX11_lay 59 = .ok (.iaload, 1) := by decide +kernel
theorem dX11_lay_60 : decode cX11_lay 60 = .ok (.invokevirtual 305, 3) := by decide +kernel
theorem dX11_lay_63 : decode cX11_lay 63 = .ok (.iinc 3 1, 3) := by decide +kernel
theorem dX11_lay_66 : decode cX11_lay 66 = .ok (.goto (-35), 3) := by decide +kernel
theorem dX11_lay_69 : decode cX11_lay 69 = .ok (.aload_n 0, 1) := by decide +kernel
theorem dX11_lay_70 : decode cX11_lay 70 = .ok (.getfield 56, 3) := by decide +kernel
theorem dX11_lay_73 : decode cX11_lay 73 = .ok (.iload_n 1, 1) := by decide +kernel
theorem dX11_lay_74 : decode cX11_lay 74 = .ok (.iaload, 1) := by decide +kernel
theorem dX11_lay_75 : decode cX11_lay 75 = .ok (.ireturn, 1) := by decide +kernel
set_option maxRecDepth 20000 in
theorem ggX11_laid_X11_isTray : GoodIn wsX11_laid wsX11_isTray := goodIn_r _ [7, 8, 9, 6, 10] (by decide +kernel) (by decide +kernel)
set_option maxRecDepth 20000 in
theorem gX11_laid_X11_isTray : GoodIn wsX11_laid (va_wsS RX11 299 yX11_isTray wsX11_isTray) := goodIn_app (goodIn_of _ (by decide +kernel)) ggX11_laid_X11_isTray
set_option maxRecDepth 20000 in
theorem ggX11_laid_X11_isType : GoodIn wsX11_laid wsX11_isType := goodIn_r _ [14, 15, 8, 9, 6, 10, 22, 23, 24, 25, 26, 27, 28, 29, 30, 31, 32, 33, 34, 35, 36, 37, 38, 39, 40, 41, 42, 43, 44, 45, 46, 47, 48, 49, 50, 51, 52, 53, 54, 55, 56, 57, 58, 59, 60] (by decide +kernel) (by decide +kernel)
set_option maxRecDepth 20000 in
theorem gX11_laid_X11_isType : GoodIn wsX11_laid (wsV RX11 94 RX11 yX11_isType wsX11_isType) := goodIn_app (goodIn_of _ (by decide +kernel)) ggX11_laid_X11_isType
set_option maxRecDepth 20000 in
theorem ggX11_laid_X11_placeIn : GoodIn wsX11_laid wsX11_placeIn := goodIn_r _ [19, 20, 21, 22, 23, 24, 25, 26, 27, 28, 29, 30, 31, 32, 33, 34, 35, 36, 37, 38, 39, 40, 41, 42, 43, 44, 45, 46, 47, 48, 49, 50, 51, 52, 53, 54, 55, 56, 57, 58, 59, 60] (by decide +kernel) (by decide +kernel)
set_option maxRecDepth 20000 in
theorem gX11_laid_X11_placeIn : GoodIn wsX11_laid (wsV RX11 302 RX11 yX11_placeIn wsX11_placeIn) := goodIn_app (goodIn_of _ (by decide +kernel)) ggX11_laid_X11_placeIn
theorem dX11_laid_0 : decode cX11_laid 0 = .ok (.iload_n 1, 1) := by decide +kernel
theorem dX11_laid_1 : decode cX11_laid 1 = .ok (.invokestatic 299, 3) := by decide +kernel
theorem dX11_laid_4 : decode cX11_laid 4 = .ok (.ifCond .eq 11, 3) := by decide +kernel
theorem dX11_laid_7 : decode cX11_laid 7 = .ok (.aload_n 0, 1) := by decide +kernel
theorem dX11_laid_8 : decode cX11_laid 8 = .ok (.iload_n 2, 1) := by decide +kernel
theorem dX11_laid_9 : decode cX11_laid 9 = .ok (.invokevirtual 94, 3) := by decide +kernel
theorem dX11_laid_12 : decode cX11_laid 12 = .ok (.ifCond .ne 5, 3) := by decide +kernel
theorem dX11_laid_15 : decode cX11_laid 15 = .ok (.iconst (-1), 1) := by decide +kernel
theorem dX11_laid_16 : decode cX11_laid 16 = .ok (.ireturn, 1) := by decide +kernel
theorem dX11_laid_17 : decode cX11_laid 17 = .ok (.aload_n 0, 1) := by decide +kernel
theorem dX11_laid_18 : decode cX11_laid 18 = .ok (.getfield 52, 3) := by decide +kernel
theorem dX11_laid_21 : decode cX11_laid 21 = .ok (.iload_n 1, 1) := by decide +kernel
theorem dX11_laid_22 : decode cX11_laid 22 = .ok (.baload, 1) := by decide +kernel
theorem dX11_laid_23 : decode cX11_laid 23 = .ok (.ifCond .ne 6, 3) := by decide +kernel
theorem dX11_laid_26 : decode cX11_laid 26 = .ok (.bipush (-11), 2) := by decide +kernel
theorem dX11_laid_28 : decode cX11_laid 28 = .ok (.ireturn, 1) := by decide +kernel
theorem dX11_laid_29 : decode cX11_laid 29 = .ok (.aload_n 0, 1) := by decide +kernel
theorem dX11_laid_30 : decode cX11_laid 30 = .ok (.iload_n 1, 1) := by decide +kernel
theorem dX11_laid_31 : decode cX11_laid 31 = .ok (.aload_n 0, 1) := by decide +kernel
theorem dX11_laid_32 : decode cX11_laid 32 = .ok (.getfield 22, 3) := by decide +kernel
theorem dX11_laid_35 : decode cX11_laid 35 = .ok (.iload_n 2, 1) := by decide +kernel
theorem dX11_laid_36 : decode cX11_laid 36 = .ok (.iaload, 1) := by decide +kernel
theorem dX11_laid_37 : decode cX11_laid 37 = .ok (.invokevirtual 302, 3) := by decide +kernel
theorem dX11_laid_40 : decode cX11_laid 40 = .ok (.istore_n 3, 1) := by decide +kernel
theorem dX11_laid_41 : decode cX11_laid 41 = .ok (.iload_n 3, 1) := by decide +kernel
theorem dX11_laid_42 : decode cX11_laid 42 = .ok (.iconst (-1), 1) := by decide +kernel
theorem dX11_laid_43 : decode cX11_laid 43 = .ok (.if_icmp .ne 8, 3) := by decide +kernel
theorem dX11_laid_46 : decode cX11_laid 46 = .ok (.bipush (-5), 2) := by decide +kernel
theorem dX11_laid_48 : decode cX11_laid 48 = .ok (.goto 9, 3) := by decide +kernel
theorem dX11_laid_51 : decode cX11_laid 51 = .ok (.aload_n 0, 1) := by decide +kernel
theorem dX11_laid_52 : decode cX11_laid 52 = .ok (.getfield 62, 3) := by decide +kernel
theorem dX11_laid_55 : decode cX11_laid 55 = .ok (.iload_n 3, 1) := by decide +kernel
theorem dX11_laid_56 : decode cX11_laid 56 = .ok (.iaload, 1) := by decide +kernel
theorem dX11_laid_57 : decode cX11_laid 57 = .ok (.ireturn, 1) := by decide +kernel
set_option maxRecDepth 20000 in
theorem ggX11_isList_X11_in : GoodIn wsX11_isList wsX11_in := goodIn_r _ [4] (by decide +kernel) (by decide +kernel)
set_option maxRecDepth 20000 in
theorem gX11_isList_X11_in : GoodIn wsX11_isList (va_wsS RX11 83 yX11_in wsX11_in) := goodIn_app (goodIn_of _ (by decide +kernel)) ggX11_isList_X11_in
theorem dX11_isList_0 : decode cX11_isList 0 = .ok (.iload_n 0, 1) := by decide +kernel
theorem dX11_isList_1 : decode cX11_isList 1 = .ok (.iconst 0, 1) := by decide +kernel
theorem dX11_isList_2 : decode cX11_isList 2 = .ok (.iconst 2, 1) := by decide +kernel
theorem dX11_isList_3 : decode cX11_isList 3 = .ok (.invokestatic 83, 3) := by decide +kernel
theorem dX11_isList_6 : decode cX11_isList 6 = .ok (.ireturn, 1) := by decide +kernel
set_option maxRecDepth 20000 in
theorem ggX11_list_X11_isList : GoodIn wsX11_list wsX11_isList := goodIn_r _ [6, 7, 8, 5, 9] (by decide +kernel) (by decide +kernel)
set_option maxRecDepth 20000 in
theorem gX11_list_X11_isList : GoodIn wsX11_list (va_wsS RX11 308 yX11_isList wsX11_isList) := goodIn_app (goodIn_of _ (by decide +kernel)) ggX11_list_X11_isList
theorem dX11_list_0 : decode cX11_list 0 = .ok (.iload_n 1, 1) := by decide +kernel
theorem dX11_list_1 : decode cX11_list 1 = .ok (.invokestatic 308, 3) := by decide +kernel
theorem dX11_list_4 : decode cX11_list 4 = .ok (.ifCond .ne 5, 3) := by decide +kernel
theorem dX11_list_7 : decode cX11_list 7 = .ok (.iconst (-1), 1) := by decide +kernel
theorem dX11_list_8 : decode cX11_list 8 = .ok (.ireturn, 1) := by decide +kernel
theorem dX11_list_9 : decode cX11_list 9 = .ok (.iload_n 2, 1) := by decide +kernel
theorem dX11_list_10 : decode cX11_list 10 = .ok (.bipush 30, 2) := by decide +kernel
theorem dX11_list_12 : decode cX11_list 12 = .ok (.if_icmp .le 6, 3) := by decide +kernel
theorem dX11_list_15 : decode cX11_list 15 = .ok (.bipush (-2), 2) := by decide +kernel
theorem dX11_list_17 : decode cX11_list 17 = .ok (.ireturn, 1) := by decide +kernel
theorem dX11_list_18 : decode cX11_list 18 = .ok (.iload_n 2, 1) := by decide +kernel
theorem dX11_list_19 : decode cX11_list 19 = .ok (.iconst (-1), 1) := by decide +kernel
theorem dX11_list_20 : decode cX11_list 20 = .ok (.if_icmp .ge 6, 3) := by decide +kernel
theorem dX11_list_23 : decode cX11_list 23 = .ok (.bipush (-14), 2) := by decide +kernel
theorem dX11_list_25 : decode cX11_list 25 = .ok (.ireturn, 1) := by decide +kernel
theorem dX11_list_26 : decode cX11_list 26 = .ok (.aload_n 0, 1) := by decide +kernel
theorem dX11_list_27 : decode cX11_list 27 = .ok (.getfield 65, 3) := by decide +kernel
theorem dX11_list_30 : decode cX11_list 30 = .ok (.iload_n 1, 1) := by decide +kernel
theorem dX11_list_31 : decode cX11_list 31 = .ok (.iload_n 2, 1) := by decide +kernel
theorem dX11_list_32 : decode cX11_list 32 = .ok (.iastore, 1) := by decide +kernel
theorem dX11_list_33 : decode cX11_list 33 = .ok (.iconst 0, 1) := by decide +kernel
theorem dX11_list_34 : decode cX11_list 34 = .ok (.istore_n 3, 1) := by decide +kernel
theorem dX11_list_35 : decode cX11_list 35 = .ok (.iload_n 3, 1) := by decide +kernel
theorem dX11_list_36 : decode cX11_list 36 = .ok (.bipush 30, 2) := by decide +kernel
theorem dX11_list_38 : decode cX11_list 38 = .ok (.if_icmp .ge 21, 3) := by decide +kernel
theorem dX11_list_41 : decode cX11_list 41 = .ok (.aload_n 0, 1) := by decide +kernel
theorem dX11_list_42 : decode cX11_list 42 = .ok (.getfield 68, 3) := by decide +kernel
theorem dX11_list_45 : decode cX11_list 45 = .ok (.bipush 30, 2) := by decide +kernel
theorem dX11_list_47 : decode cX11_list 47 = .ok (.iload_n 1, 1) := by decide +kernel
theorem dX11_list_48 : decode cX11_list 48 = .ok (.imul, 1) := by decide +kernel
theorem dX11_list_49 : decode cX11_list 49 = .ok (.iload_n 3, 1) := by decide +kernel
theorem dX11_list_50 : decode cX11_list 50 = .ok (.iadd, 1) := by decide +kernel
theorem dX11_list_51 : decode cX11_list 51 = .ok (.iconst 0, 1) := by decide +kernel
theorem dX11_list_52 : decode cX11_list 52 = .ok (.iastore, 1) := by decide +kernel
theorem dX11_list_53 : decode cX11_list 53 = .ok (.iinc 3 1, 3) := by decide +kernel
theorem dX11_list_56 : decode cX11_list 56 = .ok (.goto (-21), 3) := by decide +kernel
theorem dX11_list_59 : decode cX11_list 59 = .ok (.iconst 1, 1) := by decide +kernel
theorem dX11_list_60 : decode cX11_list 60 = .ok (.ireturn, 1) := by decide +kernel
set_option maxRecDepth 20000 in
theorem ggX11_put_X11_isList : GoodIn wsX11_put wsX11_isList := goodIn_r _ [6, 7, 8, 5, 9] (by decide +kernel) (by decide +kernel)
set_option maxRecDepth 20000 in
theorem gX11_put_X11_isList : GoodIn wsX11_put (va_wsS RX11 308 yX11_isList wsX11_isList) := goodIn_app (goodIn_of _ (by decide +kernel)) ggX11_put_X11_isList
set_option maxRecDepth 20000 in
theorem ggX11_put_X11_in : GoodIn wsX11_put wsX11_in := goodIn_r _ [9] (by decide +kernel) (by decide +kernel)
set_option maxRecDepth 20000 in
theorem gX11_put_X11_in : GoodIn wsX11_put (va_wsS RX11 83 yX11_in wsX11_in) := goodIn_app (goodIn_of _ (by decide +kernel)) ggX11_put_X11_in
theorem dX11_put_0 : decode cX11_put 0 = .ok (.iload_n 1, 1) := by decide +kernel
theorem dX11_put_1 : decode cX11_put 1 = .ok (.invokestatic 308, 3) := by decide +kernel
theorem dX11_put_4 : decode cX11_put 4 = .ok (.ifCond .ne 5, 3) := by decide +kernel
theorem dX11_put_7 : decode cX11_put 7 = .ok (.iconst (-1), 1) := by decide +kernel
theorem dX11_put_8 : decode cX11_put 8 = .ok (.ireturn, 1) := by decide +kernel
theorem dX11_put_9 : decode cX11_put 9 = .ok (.aload_n 0, 1) := by decide +kernel
theorem dX11_put_10 : decode cX11_put 10 = .ok (.getfield 65, 3) := by decide +kernel
theorem dX11_put_13 : decode cX11_put 13 = .ok (.iload_n 1, 1) := by decide +kernel
theorem dX11_put_14 : decode cX11_put 14 = .ok (.iaload, 1) := by decide +kernel
theorem dX11_put_15 : decode cX11_put 15 = .ok (.ifCond .ge 6, 3) := by decide +kernel
theorem dX11_put_18 : decode cX11_put 18 = .ok (.bipush (-11), 2) := by decide +kernel
theorem dX11_put_20 : decode cX11_put 20 = .ok (.ireturn, 1) := by decide +kernel
theorem dX11_put_21 : decode cX11_put 21 = .ok (.iload_n 2, 1) := by decide +kernel
theorem dX11_put_22 : decode cX11_put 22 = .ok (.iconst 0, 1) := by decide +kernel
theorem dX11_put_23 : decode cX11_put 23 = .ok (.aload_n 0, 1) := by decide +kernel
theorem dX11_put_24 : decode cX11_put 24 = .ok (.getfield 65, 3) := by decide +kernel
theorem dX11_put_27 : decode cX11_put 27 = .ok (.iload_n 1, 1) := by decide +kernel
theorem dX11_put_28 : decode cX11_put 28 = .ok (.iaload, 1) := by decide +kernel
theorem dX11_put_29 : decode cX11_put 29 = .ok (.iconst 1, 1) := by decide +kernel
theorem dX11_put_30 : decode cX11_put 30 = .ok (.isub, 1) := by decide +kernel
theorem dX11_put_31 : decode cX11_put 31 = .ok (.invokestatic 83, 3) := by decide +kernel
theorem dX11_put_34 : decode cX11_put 34 = .ok (.ifCond .ne 6, 3) := by decide +kernel
theorem dX11_put_37 : decode cX11_put 37 = .ok (.bipush (-12), 2) := by decide +kernel
theorem dX11_put_39 : decode cX11_put 39 = .ok (.ireturn, 1) := by decide +kernel
theorem dX11_put_40 : decode cX11_put 40 = .ok (.aload_n 0, 1) := by decide +kernel
theorem dX11_put_41 : decode cX11_put 41 = .ok (.getfield 68, 3) := by decide +kernel
theorem dX11_put_44 : decode cX11_put 44 = .ok (.bipush 30, 2) := by decide +kernel
theorem dX11_put_46 : decode cX11_put 46 = .ok (.iload_n 1, 1) := by decide +kernel
theorem dX11_put_47 : decode cX11_put 47 = .ok (.imul, 1) := by decide +kernel
theorem dX11_put_48 : decode cX11_put 48 = .ok (.iload_n 2, 1) := by decide +kernel
theorem dX11_put_49 : decode cX11_put 49 = .ok (.iadd, 1) := by decide +kernel
theorem dX11_put_50 : decode cX11_put 50 = .ok (.iload_n 3, 1) := by decide +kernel
theorem dX11_put_51 : decode cX11_put 51 = .ok (.iastore, 1) := by decide +kernel
theorem dX11_put_52 : decode cX11_put 52 = .ok (.iconst 1, 1) := by decide +kernel
theorem dX11_put_53 : decode cX11_put 53 = .ok (.ireturn, 1) := by decide +kernel
set_option maxRecDepth 20000 in
theorem ggX11_get_X11_isList : GoodIn wsX11_get wsX11_isList := goodIn_r _ [7, 8, 9, 6, 10] (by decide +kernel) (by decide +kernel)
set_option maxRecDepth 20000 in
theorem gX11_get_X11_isList : GoodIn wsX11_get (va_wsS RX11 308 yX11_isList wsX11_isList) := goodIn_app (goodIn_of _ (by decide +kernel)) ggX11_get_X11_isList
set_option maxRecDepth 20000 in
theorem ggX11_get_X11_in : GoodIn wsX11_get wsX11_in := goodIn_r _ [10] (by decide +kernel) (by decide +kernel)
set_option maxRecDepth 20000 in
theorem gX11_get_X11_in : GoodIn wsX11_get (va_wsS RX11 83 yX11_in wsX11_in) := goodIn_app (goodIn_of _ (by decide +kernel)) ggX11_get_X11_in
theorem dX11_get_0 : decode cX11_get 0 = .ok (.iload_n 1, 1) := by decide +kernel
theorem dX11_get_1 : decode cX11_get 1 = .ok (.invokestatic 308, 3) := by decide +kernel
theorem dX11_get_4 : decode cX11_get 4 = .ok (.ifCond .eq 33, 3) := by decide +kernel
theorem dX11_get_7 : decode cX11_get 7 = .ok (.iload_n 2, 1) := by decide +kernel
theorem dX11_get_8 : decode cX11_get 8 = .ok (.iconst 0, 1) := by decide +kernel
theorem dX11_get_9 : decode cX11_get 9 = .ok (.aload_n 0, 1) := by decide +kernel
theorem dX11_get_10 : decode cX11_get 10 = .ok (.getfield 65, 3) := by decide +kernel
theorem dX11_get_13 : decode cX11_get 13 = .ok (.iload_n 1, 1) := by decide +kernel
theorem dX11_get_14 : decode cX11_get 14 = .ok (.iaload, 1) := by decide +kernel
theorem dX11_get_15 : decode cX11_get 15 = .ok (.iconst 1, 1) := by decide +kernel
theorem dX11_get_16 : decode cX11_get 16 = .ok (.isub, 1) := by decide +kernel
theorem dX11_get_17 : decode cX11_get 17 = .ok (.invokestatic 83, 3) := by decide +kernel
theorem dX11_get_20 : decode cX11_get 20 = .ok (.ifCond .eq 17, 3) := by decide +kernel
theorem dX11_get_23 : decode cX11_get 23 = .ok (.aload_n 0, 1) := by decide +kernel
theorem dX11_get_24 : decode cX11_get 24 = .ok (.getfield 68, 3) := by decide +kernel
theorem dX11_get_27 : decode cX11_get 27 = .ok (.bipush 30, 2) := by decide +kernel
theorem dX11_get_29 : decode cX11_get 29 = .ok (.iload_n 1, 1) := by decide +kernel
theorem dX11_get_30 : decode cX11_get 30 = .ok (.imul, 1) := by decide +kernel
theorem dX11_get_31 : decode cX11_get 31 = .ok (.iload_n 2, 1) := by decide +kernel
theorem dX11_get_32 : decode cX11_get 32 = .ok (.iadd, 1) := by decide +kernel
theorem dX11_get_33 : decode cX11_get 33 = .ok (.iaload, 1) := by decide +kernel
theorem dX11_get_34 : decode cX11_get 34 = .ok (.goto 6, 3) := by decide +kernel
theorem dX11_get_37 : decode cX11_get 37 = .ok (.ldc_w 311, 3) := by decide +kernel
theorem dX11_get_40 : decode cX11_get 40 = .ok (.ireturn, 1) := by decide +kernel
set_option maxRecDepth 20000 in
theorem ggX11_fill_X11_isList : GoodIn wsX11_fill wsX11_isList := goodIn_r _ [8, 9, 10, 7, 11] (by decide +kernel) (by decide +kernel)
set_option maxRecDepth 20000 in
theorem gX11_fill_X11_isList : GoodIn wsX11_fill (va_wsS RX11 308 yX11_isList wsX11_isList) := goodIn_app (goodIn_of _ (by decide +kernel)) ggX11_fill_X11_isList
set_option maxRecDepth 20000 in
theorem ggX11_fill_X11_gaplessOnes : GoodIn wsX11_fill wsX11_gaplessOnes := goodIn_r _ [15, 2, 4, 16, 17, 18, 7, 19, 20, 21, 22, 23, 24, 25, 26, 27, 28, 29, 30, 31, 32, 33, 34, 35, 36, 37, 38, 39, 40, 41, 42, 43, 44, 45, 46, 47, 48, 49, 50, 51, 52, 53, 54, 55, 56, 57, 58, 59, 60, 61, 62, 63, 64, 65, 66, 67, 68, 69, 70, 71, 72, 73, 74, 75, 76, 77, 78, 79, 80, 81, 82, 83, 84, 85, 86, 87] (by decide +kernel) (by decide +kernel)
set_option maxRecDepth 20000 in
theorem gX11_fill_X11_gaplessOnes : GoodIn wsX11_fill (wsV RX11 163 RX11 yX11_gaplessOnes wsX11_gaplessOnes) := goodIn_app (goodIn_of _ (by decide +kernel)) ggX11_fill_X11_gaplessOnes
theorem dX11_fill_0 : decode cX11_fill 0 = .ok (.iload_n 1, 1) := by decide +kernel
theorem dX11_fill_1 : decode cX11_fill 1 = .ok (.invokestatic 308, 3) := by decide +kernel
theorem dX11_fill_4 : decode cX11_fill 4 = .ok (.ifCond .ne 5, 3) := by decide +kernel
theorem dX11_fill_7 : decode cX11_fill 7 = .ok (.iconst (-1), 1) := by decide +kernel
theorem dX11_fill_8 : decode cX11_fill 8 = .ok (.ireturn, 1) := by decide +kernel
theorem dX11_fill_9 : decode cX11_fill 9 = .ok (.iload_n 2, 1) := by decide +kernel
theorem dX11_fill_10 : decode cX11_fill 10 = .ok (.ifCond .ge 6, 3) := by decide +kernel
theorem dX11_fill_13 : decode cX11_fill 13 = .ok (.bipush (-2), 2) := by decide +kernel
theorem dX11_fill_15 : decode cX11_fill 15 = .ok (.ireturn, 1) := by decide +kernel
theorem dX11_fill_16 : decode cX11_fill 16 = .ok (.aload_n 0, 1) := by decide +kernel
theorem dX11_fill_17 : decode cX11_fill 17 = .ok (.getfield 65, 3) := by decide +kernel
theorem dX11_fill_20 : decode cX11_fill 20 = .ok (.iload_n 1, 1) := by decide +kernel
theorem dX11_fill_21 : decode cX11_fill 21 = .ok (.iaload, 1) := by decide +kernel
theorem dX11_fill_22 : decode cX11_fill 22 = .ok (.ifCond .ge 6, 3) := by decide +kernel
theorem dX11_fill_25 : decode cX11_fill 25 = .ok (.bipush (-11), 2) := by decide +kernel
theorem dX11_fill_27 : decode cX11_fill 27 = .ok (.ireturn, 1) := by decide +kernel
theorem dX11_fill_28 : decode cX11_fill 28 = .ok (.aload_n 0, 1) := by decide +kernel
theorem dX11_fill_29 : decode cX11_fill 29 = .ok (.invokevirtual 163, 3) := by decide +kernel
theorem dX11_fill_32 : decode cX11_fill 32 = .ok (.iconst 0, 1) := by decide +kernel
theorem dX11_fill_33 : decode cX11_fill 33 = .ok (.istore_n 3, 1) := by decide +kernel
theorem dX11_fill_34 : decode cX11_fill 34 = .ok (.iload_n 3, 1) := by decide +kernel
theorem dX11_fill_35 : decode cX11_fill 35 = .ok (.aload_n 0, 1) := by decide +kernel
theorem dX11_fill_36 : decode cX11_fill 36 = .ok (.getfield 65, 3) := by decide +kernel
theorem dX11_fill_39 : decode cX11_fill 39 = .ok (.iload_n 1, 1) := by decide +kernel
theorem dX11_fill_40 : decode cX11_fill 40 = .ok (.iaload, 1) := by decide +kernel
theorem dX11_fill_41 : decode cX11_fill 41 = .ok (.if_icmp .ge 38, 3) := by decide +kernel
theorem dX11_fill_44 : decode cX11_fill 44 = .ok (.iload_n 3, 1) := by decide +kernel
theorem dX11_fill_45 : decode cX11_fill 45 = .ok (.aload_n 0, 1) := by decide +kernel
theorem dX11_fill_46 : decode cX11_fill 46 = .ok (.getfield 147, 3) := by decide +kernel
theorem dX11_fill_49 : decode cX11_fill 49 = .ok (.iload_n 2, 1) := by decide +kernel
theorem dX11_fill_50 : decode cX11_fill 50 = .ok (.isub, 1) := by decide +kernel
theorem dX11_fill_51 : decode cX11_fill 51 = .ok (.if_icmp .ge 28, 3) := by decide +kernel
theorem dX11_fill_54 : decode cX11_fill 54 = .ok (.aload_n 0, 1) := by decide +kernel
theorem dX11_fill_55 : decode cX11_fill 55 = .ok (.getfield 68, 3) := by decide +kernel
theorem dX11_fill_58 : decode cX11_fill 58 = .ok (.bipush 30, 2) := by decide +kernel
theorem dX11_fill_60 : decode cX11_fill 60 = .ok (.iload_n 1, 1) := by decide +kernel
theorem dX11_fill_61 : decode cX11_fill 61 = .ok (.imul, 1) := by decide +kernel
theorem dX11_fill_62 : decode cX11_fill 62 = .ok (.iload_n 3, 1) := by decide +kernel
theorem dX11_fill_63 : decode cX11_fill 63 = .ok (.iadd, 1) := by decide +kernel
theorem dX11_fill_64 : decode cX11_fill 64 = .ok (.aload_n 0, 1) := by decide +kernel
theorem dX11_fill_65 : decode cX11_fill 65 = .ok (.getfield 28, 3) := by decide +kernel
theorem dX11_fill_68 : decode cX11_fill 68 = .ok (.iload_n 2, 1) := by decide +kernel
theorem dX11_fill_69 : decode cX11_fill 69 = .ok (.iload_n 3, 1) := by decide +kernel
theorem dX11_fill_70 : decode cX11_fill 70 = .ok (.iadd, 1) := by decide +kernel
theorem dX11_fill_71 : decode cX11_fill 71 = .ok (.iaload, 1) := by decide +kernel
theorem dX11_fill_72 : decode cX11_fill 72 = .ok (.iastore, 1) := by decide +kernel
theorem dX11_fill_73 : decode cX11_fill 73 = .ok (.iinc 3 1, 3) := by decide +kernel
theorem dX11_fill_76 : decode cX11_fill 76 = .ok (.goto (-42), 3) := by decide +kernel
theorem dX11_fill_79 : decode cX11_fill 79 = .ok (.iload_n 3, 1) := by decide +kernel
theorem dX11_fill_80 : decode cX11_fill 80 = .ok (.ireturn, 1) := by decide +kernel
set_option maxRecDepth 20000 in
theorem ggX11_isSo_X11_isOrder : GoodIn wsX11_isSo wsX11_isOrder := goodIn_r _ [7, 8, 9, 10, 11, 12, 13, 14, 15, 6, 16, 17, 18, 19, 20, 21, 22, 32, 33, 34, 35, 36, 37, 38, 39, 40, 41, 42, 43, 44, 45, 46, 47, 48, 49, 50, 51, 52, 53, 54, 55, 56, 57, 58, 59, 60, 61, 62, 63, 64, 65, 66, 67, 68, 69, 70] (by decide +kernel) (by decide +kernel)
set_option maxRecDepth 20000 in
theorem gX11_isSo_X11_isOrder : GoodIn wsX11_isSo (wsV RX11 215 RX11 yX11_isOrder wsX11_isOrder) := goodIn_app (goodIn_of _ (by decide +kernel)) ggX11_isSo_X11_isOrder
set_option maxRecDepth 20000 in
theorem ggX11_isSo_X11_gapsNow : GoodIn wsX11_isSo wsX11_gapsNow := goodIn_r _ [26, 10, 11, 20, 21, 6, 22, 27, 28, 29, 30, 9, 31, 12, 32, 33, 34, 35, 36, 37, 38, 39, 40, 41, 42, 43, 44, 45, 46, 47, 48, 49, 50, 51, 52, 53, 54, 55, 56, 57, 58, 59, 60, 61, 62, 63, 64, 65, 66, 67, 68, 69, 70] (by decide +kernel) (by decide +kernel)
set_option maxRecDepth 20000 in
theorem gX11_isSo_X11_gapsNow : GoodIn wsX11_isSo (wsV RX11 153 RX11 yX11_gapsNow wsX11_gapsNow) := goodIn_app (goodIn_of _ (by decide +kernel)) ggX11_isSo_X11_gapsNow
theorem dX11_isSo_0 : decode cX11_isSo 0 = .ok (.iload_n 3, 1) := by decide +kernel
theorem dX11_isSo_1 : decode cX11_isSo 1 = .ok (.iconst 2, 1) := by decide +kernel
theorem dX11_isSo_2 : decode cX11_isSo 2 = .ok (.if_icmp .ne 27, 3) := by decide +kernel
theorem dX11_isSo_5 : decode cX11_isSo 5 = .ok (.iload_n 2, 1) := by decide +kernel
theorem dX11_isSo_6 : decode cX11_isSo 6 = .ok (.aload_n 0, 1) := by decide +kernel
theorem dX11_isSo_7 : decode cX11_isSo 7 = .ok (.getfield 147, 3) := by decide +kernel
theorem dX11_isSo_10 : decode cX11_isSo 10 = .ok (.if_icmp .ge 17, 3) := by decide +kernel
theorem dX11_isSo_13 : decode cX11_isSo 13 = .ok (.aload_n 0, 1) := by decide +kernel
theorem dX11_isSo_14 : decode cX11_isSo 14 = .ok (.getfield 28, 3) := by decide +kernel
theorem dX11_isSo_17 : decode cX11_isSo 17 = .ok (.iload_n 2, 1) := by decide +kernel
theorem dX11_isSo_18 : decode cX11_isSo 18 = .ok (.iaload, 1) := by decide +kernel
theorem dX11_isSo_19 : decode cX11_isSo 19 = .ok (.iload_n 1, 1) := by decide +kernel
theorem dX11_isSo_20 : decode cX11_isSo 20 = .ok (.if_icmp .ne 7, 3) := by decide +kernel
theorem dX11_isSo_23 : decode cX11_isSo 23 = .ok (.iconst 1, 1) := by decide +kernel
theorem dX11_isSo_24 : decode cX11_isSo 24 = .ok (.goto 4, 3) := by decide +kernel
theorem dX11_isSo_27 : decode cX11_isSo 27 = .ok (.iconst 0, 1) := by decide +kernel
theorem dX11_isSo_28 : decode cX11_isSo 28 = .ok (.ireturn, 1) := by decide +kernel
theorem dX11_isSo_29 : decode cX11_isSo 29 = .ok (.aload_n 0, 1) := by decide +kernel
theorem dX11_isSo_30 : decode cX11_isSo 30 = .ok (.iload_n 1, 1) := by decide +kernel
theorem dX11_isSo_31 : decode cX11_isSo 31 = .ok (.invokevirtual 215, 3) := by decide +kernel
theorem dX11_isSo_34 : decode cX11_isSo 34 = .ok (.ifCond .eq 18, 3) := by decide +kernel
theorem dX11_isSo_37 : decode cX11_isSo 37 = .ok (.iload_n 3, 1) := by decide +kernel
theorem dX11_isSo_38 : decode cX11_isSo 38 = .ok (.ifCond .eq 10, 3) := by decide +kernel
theorem dX11_isSo_41 : decode cX11_isSo 41 = .ok (.aload_n 0, 1) := by decide +kernel
theorem dX11_isSo_42 : decode cX11_isSo 42 = .ok (.invokevirtual 153, 3) := by decide +kernel
theorem dX11_isSo_45 : decode cX11_isSo 45 = .ok (.ifCond .ne 7, 3) := by decide +kernel
theorem dX11_isSo_48 : decode cX11_isSo 48 = .ok (.iconst 1, 1) := by decide +kernel
theorem dX11_isSo_49 : decode cX11_isSo 49 = .ok (.goto 4, 3) := by decide +kernel
theorem dX11_isSo_52 : decode cX11_isSo 52 = .ok (.iconst 0, 1) := by decide +kernel
theorem dX11_isSo_53 : decode cX11_isSo 53 = .ok (.ireturn, 1) := by decide +kernel
set_option maxRecDepth 20000 in
theorem ggX11_judge_X11_isList : GoodIn wsX11_judge wsX11_isList := goodIn_r _ [6, 7, 8, 5, 9] (by decide +kernel) (by decide +kernel)
set_option maxRecDepth 20000 in
theorem gX11_judge_X11_isList : GoodIn wsX11_judge (va_wsS RX11 308 yX11_isList wsX11_isList) := goodIn_app (goodIn_of _ (by decide +kernel)) ggX11_judge_X11_isList
set_option maxRecDepth 20000 in
theorem ggX11_judge_X11_in : GoodIn wsX11_judge wsX11_in := goodIn_r _ [9] (by decide +kernel) (by decide +kernel)
set_option maxRecDepth 20000 in
theorem gX11_judge_X11_in : GoodIn wsX11_judge (va_wsS RX11 83 yX11_in wsX11_in) := goodIn_app (goodIn_of _ (by decide +kernel)) ggX11_judge_X11_in
set_option maxRecDepth 20000 in
theorem ggX11_judge_X11_gaplessOnes : GoodIn wsX11_judge wsX11_gaplessOnes := goodIn_r _ [13, 14, 15, 16, 17, 18, 5, 19, 20, 21, 22, 23, 24, 25, 26, 27, 28, 29, 30, 31, 32, 33, 34, 35, 36, 37, 38, 39, 40, 41, 42, 43, 44, 45, 46, 47, 48, 61, 62, 63, 64, 65, 66, 67, 68, 69, 70, 71, 72, 73, 74, 75, 76, 77, 78, 79, 80, 81, 82, 83, 84, 85, 86, 87, 88, 89, 90, 91, 92, 93, 94, 95, 96, 97, 98, 99] (by decide +kernel) (by decide +kernel)
set_option maxRecDepth 20000 in
theorem gX11_judge_X11_gaplessOnes : GoodIn wsX11_judge (wsV RX11 163 RX11 yX11_gaplessOnes wsX11_gaplessOnes) := goodIn_app (goodIn_of _ (by decide +kernel)) ggX11_judge_X11_gaplessOnes
set_option maxRecDepth 20000 in
theorem ggX11_judge_X11_isSo : GoodIn wsX11_judge wsX11_isSo := goodIn_r _ [52, 14, 15, 53, 54, 55, 5, 56, 26, 25, 20, 28, 27, 57, 58, 59, 60, 7, 8, 9, 33, 34, 35, 29, 30, 31, 32, 36, 37, 38, 39, 40, 61, 62, 63, 64, 65, 66, 67, 68, 69, 70, 71, 72, 73, 74, 75, 76, 77, 78, 79, 80, 81, 82, 83, 84, 85, 86, 87, 88, 89, 90, 91, 92, 93, 94, 95, 96, 97, 98, 99] (by decide +kernel) (by decide +kernel)
set_option maxRecDepth 20000 in
theorem gX11_judge_X11_isSo : GoodIn wsX11_judge (wsV RX11 312 RX11 yX11_isSo wsX11_isSo) := goodIn_app (goodIn_of _ (by decide +kernel)) ggX11_judge_X11_isSo
theorem dX11_judge_0 : decode cX11_judge 0 = .ok (.iload_n 1, 1) := by decide +kernel
theorem dX11_judge_1 : decode cX11_judge 1 = .ok (.invokestatic 308, 3) := by decide +kernel
theorem dX11_judge_4 : decode cX11_judge 4 = .ok (.ifCond .ne 5, 3) := by decide +kernel
theorem dX11_judge_7 : decode cX11_judge 7 = .ok (.iconst (-1), 1) := by decide +kernel
theorem dX11_judge_8 : decode cX11_judge 8 = .ok (.ireturn, 1) := by decide +kernel
theorem dX11_judge_9 : decode cX11_judge 9 = .ok (.iload_n 2, 1) := by decide +kernel
theorem dX11_judge_10 : decode cX11_judge 10 = .ok (.iconst 0, 1) := by decide +kernel
theorem dX11_judge_11 : decode cX11_judge 11 = .ok (.iconst 2, 1) := by decide +kernel
theorem dX11_judge_12 : decode cX11_judge 12 = .ok (.invokestatic 83, 3) := by decide +kernel
theorem dX11_judge_15 : decode cX11_judge 15 = .ok (.ifCond .ne 6, 3) := by decide +kernel
theorem dX11_judge_18 : decode cX11_judge 18 = .ok (.bipush (-2), 2) := by decide +kernel
theorem dX11_judge_20 : decode cX11_judge 20 = .ok (.ireturn, 1) := by decide +kernel
theorem dX11_judge_21 : decode cX11_judge 21 = .ok (.aload_n 0, 1) := by decide +kernel
theorem dX11_judge_22 : decode cX11_judge 22 = .ok (.getfield 65, 3) := by decide +kernel
theorem dX11_judge_25 : decode cX11_judge 25 = .ok (.iload_n 1, 1) := by decide +kernel
theorem dX11_judge_26 : decode cX11_judge 26 = .ok (.iaload, 1) := by decide +kernel
theorem dX11_judge_27 : decode cX11_judge 27 = .ok (.ifCond .ge 6, 3) := by decide +kernel
theorem dX11_judge_30 : decode cX11_judge 30 = .ok (.bipush (-11), 2) := by decide +kernel
theorem dX11_judge_32 : decode cX11_judge 32 = .ok (.ireturn, 1) := by decide +kernel
theorem dX11_judge_33 : decode cX11_judge 33 = .ok (.iload_n 2, 1) := by decide +kernel
theorem dX11_judge_34 : decode cX11_judge 34 = .ok (.iconst 2, 1) := by decide +kernel
theorem dX11_judge_35 : decode cX11_judge 35 = .ok (.if_icmp .ne 7, 3) := by decide +kernel
theorem dX11_judge_38 : decode cX11_judge 38 = .ok (.aload_n 0, 1) := by decide +kernel
theorem dX11_judge_39 : decode cX11_judge 39 = .ok (.invokevirtual 163, 3) := by decide +kernel
theorem dX11_judge_42 : decode cX11_judge 42 = .ok (.iconst 0, 1) := by decide +kernel
theorem dX11_judge_43 : decode cX11_judge 43 = .ok (.istore_n 3, 1) := by decide +kernel
theorem dX11_judge_44 : decode cX11_judge 44 = .ok (.iload_n 3, 1) := by decide +kernel
theorem dX11_judge_45 : decode cX11_judge 45 = .ok (.aload_n 0, 1) := by decide +kernel
theorem dX11_judge_46 : decode cX11_judge 46 = .ok (.getfield 65, 3) := by decide +kernel
theorem dX11_judge_49 : decode cX11_judge 49 = .ok (.iload_n 1, 1) := by decide +kernel
theorem dX11_judge_50 : decode cX11_judge 50 = .ok (.iaload, 1) := by decide +kernel
theorem dX11_judge_51 : decode cX11_judge 51 = .ok (.if_icmp .ge 31, 3) := by decide +kernel
theorem dX11_judge_54 : decode cX11_judge 54 = .ok (.aload_n 0, 1) := by decide +kernel
theorem dX11_judge_55 : decode cX11_judge 55 = .ok (.aload_n 0, 1) := by decide +kernel
theorem dX11_judge_56 : decode cX11_judge 56 = .ok (.getfield 68, 3) := by decide +kernel
theorem dX11_judge_59 : decode cX11_judge 59 = .ok (.bipush 30, 2) := by decide +kernel
theorem dX11_judge_61 : decode cX11_judge 61 = .ok (.iload_n 1, 1) := by decide +kernel
theorem dX11_judge_62 : decode cX11_judge 62 = .ok (.imul, 1) := by decide +kernel
theorem dX11_judge_63 : decode cX11_judge 63 = .ok (.iload_n 3, 1) := by decide +kernel
theorem dX11_judge_64 : decode cX11_judge 64 = .ok (.iadd, 1) := by decide +kernel
theorem dX11_judge_65 : decode cX11_judge 65 = .ok (.iaload, 1) := by decide +kernel
theorem dX11_judge_66 : decode cX11_judge 66 = .ok (.iload_n 3, 1) := by decide +kernel
theorem dX11_judge_67 : decode cX11_judge 67 = .ok (.iload_n 2, 1) := by decide +kernel
theorem dX11_judge_68 : decode cX11_judge 68 = .ok (.invokevirtual 312, 3) := by decide +kernel
theorem dX11_judge_71 : decode cX11_judge 71 = .ok (.ifCond .ne 5, 3) := by decide +kernel
theorem dX11_judge_74 : decode cX11_judge 74 = .ok (.iload_n 3, 1) := by decide +kernel
theorem dX11_judge_75 : decode cX11_judge 75 = .ok (.ireturn, 1) := by decide +kernel
theorem dX11_judge_76 : decode cX11_judge 76 = .ok (.iinc 3 1, 3) := by decide +kernel
theorem dX11_judge_79 : decode cX11_judge 79 = .ok (.goto (-35), 3) := by decide +kernel
theorem dX11_judge_82 : decode cX11_judge 82 = .ok (.bipush (-5), 2) := by decide +kernel
theorem dX11_judge_84 : decode cX11_judge 84 = .ok (.ireturn, 1) := by decide +kernel
set_option maxRecDepth 20000 in
theorem ggX11_image_X11_copies : GoodIn wsX11_image wsX11_copies := goodIn_r _ [15] (by decide +kernel) (by decide +kernel)
set_option maxRecDepth 20000 in
theorem gX11_image_X11_copies : GoodIn wsX11_image (va_wsS RX11 280 yX11_copies wsX11_copies) := goodIn_app (goodIn_of _ (by decide +kernel)) ggX11_image_X11_copies
theorem dX11_image_0 : decode cX11_image 0 = .ok (.aload_n 0, 1) := by decide +kernel
theorem dX11_image_1 : decode cX11_image 1 = .ok (.iconst 1, 1) := by decide +kernel
theorem dX11_image_2 : decode cX11_image 2 = .ok (.putfield 315, 3) := by decide +kernel
theorem dX11_image_5 : decode cX11_image 5 = .ok (.aload_n 0, 1) := by decide +kernel
theorem dX11_image_6 : decode cX11_image 6 = .ok (.aload_n 0, 1) := by decide +kernel
theorem dX11_image_7 : decode cX11_image 7 = .ok (.getfield 80, 3) := by decide +kernel
theorem dX11_image_10 : decode cX11_image 10 = .ok (.putfield 318, 3) := by decide +kernel
theorem dX11_image_13 : decode cX11_image 13 = .ok (.aload_n 0, 1) := by decide +kernel
theorem dX11_image_14 : decode cX11_image 14 = .ok (.aload_n 0, 1) := by decide +kernel
theorem dX11_image_15 : decode cX11_image 15 = .ok (.getfield 87, 3) := by decide +kernel
theorem dX11_image_18 : decode cX11_image 18 = .ok (.putfield 321, 3) := by decide +kernel
theorem dX11_image_21 : decode cX11_image 21 = .ok (.aload_n 0, 1) := by decide +kernel
theorem dX11_image_22 : decode cX11_image 22 = .ok (.getfield 15, 3) := by decide +kernel
theorem dX11_image_25 : decode cX11_image 25 = .ok (.aload_n 0, 1) := by decide +kernel
theorem dX11_image_26 : decode cX11_image 26 = .ok (.getfield 71, 3) := by decide +kernel
theorem dX11_image_29 : decode cX11_image 29 = .ok (.bipush 7, 2) := by decide +kernel
theorem dX11_image_31 : decode cX11_image 31 = .ok (.invokestatic 280, 3) := by decide +kernel
theorem dX11_image_34 : decode cX11_image 34 = .ok (.aload_n 0, 1) := by decide +kernel
theorem dX11_image_35 : decode cX11_image 35 = .ok (.getfield 19, 3) := by decide +kernel
theorem dX11_image_38 : decode cX11_image 38 = .ok (.aload_n 0, 1) := by decide +kernel
theorem dX11_image_39 : decode cX11_image 39 = .ok (.getfield 74, 3) := by decide +kernel
theorem dX11_image_42 : decode cX11_image 42 = .ok (.bipush 7, 2) := by decide +kernel
theorem dX11_image_44 : decode cX11_image 44 = .ok (.invokestatic 280, 3) := by decide +kernel
theorem dX11_image_47 : decode cX11_image 47 = .ok (.aload_n 0, 1) := by decide +kernel
theorem dX11_image_48 : decode cX11_image 48 = .ok (.getfield 22, 3) := by decide +kernel
theorem dX11_image_51 : decode cX11_image 51 = .ok (.aload_n 0, 1) := by decide +kernel
theorem dX11_image_52 : decode cX11_image 52 = .ok (.getfield 77, 3) := by decide +kernel
theorem dX11_image_55 : decode cX11_image 55 = .ok (.bipush 8, 2) := by decide +kernel
theorem dX11_image_57 : decode cX11_image 57 = .ok (.invokestatic 280, 3) := by decide +kernel
theorem dX11_image_60 : decode cX11_image 60 = .ok (.aload_n 0, 1) := by decide +kernel
theorem dX11_image_61 : decode cX11_image 61 = .ok (.getfield 80, 3) := by decide +kernel
theorem dX11_image_64 : decode cX11_image 64 = .ok (.ireturn, 1) := by decide +kernel
set_option maxRecDepth 20000 in
theorem ggX11_undo_X11_copies : GoodIn wsX11_undo wsX11_copies := goodIn_r _ [15] (by decide +kernel) (by decide +kernel)
set_option maxRecDepth 20000 in
theorem gX11_undo_X11_copies : GoodIn wsX11_undo (va_wsS RX11 280 yX11_copies wsX11_copies) := goodIn_app (goodIn_of _ (by decide +kernel)) ggX11_undo_X11_copies
theorem dX11_undo_0 : decode cX11_undo 0 = .ok (.aload_n 0, 1) := by decide +kernel
theorem dX11_undo_1 : decode cX11_undo 1 = .ok (.getfield 315, 3) := by decide +kernel
theorem dX11_undo_4 : decode cX11_undo 4 = .ok (.ifCond .ne 6, 3) := by decide +kernel
theorem dX11_undo_7 : decode cX11_undo 7 = .ok (.bipush (-3), 2) := by decide +kernel
theorem dX11_undo_9 : decode cX11_undo 9 = .ok (.ireturn, 1) := by decide +kernel
theorem dX11_undo_10 : decode cX11_undo 10 = .ok (.aload_n 0, 1) := by decide +kernel
theorem dX11_undo_11 : decode cX11_undo 11 = .ok (.aload_n 0, 1) := by decide +kernel
theorem dX11_undo_12 : decode cX11_undo 12 = .ok (.getfield 318, 3) := by decide +kernel
theorem dX11_undo_15 : decode cX11_undo 15 = .ok (.putfield 80, 3) := by decide +kernel
theorem dX11_undo_18 : decode cX11_undo 18 = .ok (.aload_n 0, 1) := by decide +kernel
theorem dX11_undo_19 : decode cX11_undo 19 = .ok (.aload_n 0, 1) := by decide +kernel
theorem dX11_undo_20 : decode cX11_undo 20 = .ok (.getfield 321, 3) := by decide +kernel
theorem dX11_undo_23 : decode cX11_undo 23 = .ok (.putfield 87, 3) := by decide +kernel
theorem dX11_undo_26 : decode cX11_undo 26 = .ok (.aload_n 0, 1) := by decide +kernel
theorem dX11_undo_27 : decode cX11_undo 27 = .ok (.getfield 71, 3) := by decide +kernel
theorem dX11_undo_30 : decode cX11_undo 30 = .ok (.aload_n 0, 1) := by decide +kernel
theorem dX11_undo_31 : decode cX11_undo 31 = .ok (.getfield 15, 3) := by decide +kernel
theorem dX11_undo_34 : decode cX11_undo 34 = .ok (.bipush 7, 2) := by decide +kernel
theorem dX11_undo_36 : decode cX11_undo 36 = .ok (.invokestatic 280, 3) := by decide +kernel
theorem dX11_undo_39 : decode cX11_undo 39 = .ok (.aload_n 0, 1) := by decide +kernel
theorem dX11_undo_40 : decode cX11_undo 40 = .ok (.getfield 74, 3) := by decide +kernel
theorem dX11_undo_43 : decode cX11_undo 43 = .ok (.aload_n 0, 1) := by decide +kernel
theorem dX11_undo_44 : decode cX11_undo 44 = .ok (.getfield 19, 3) := by decide +kernel
theorem dX11_undo_47 : decode cX11_undo 47 = .ok (.bipush 7, 2) := by decide +kernel
theorem dX11_undo_49 : decode cX11_undo 49 = .ok (.invokestatic 280, 3) := by decide +kernel
theorem dX11_undo_52 : decode cX11_undo 52 = .ok (.aload_n 0, 1) := by decide +kernel
theorem dX11_undo_53 : decode cX11_undo 53 = .ok (.getfield 77, 3) := by decide +kernel
theorem dX11_undo_56 : decode cX11_undo 56 = .ok (.aload_n 0, 1) := by decide +kernel
theorem dX11_undo_57 : decode cX11_undo 57 = .ok (.getfield 22, 3) := by decide +kernel
theorem dX11_undo_60 : decode cX11_undo 60 = .ok (.bipush 8, 2) := by decide +kernel
theorem dX11_undo_62 : decode cX11_undo 62 = .ok (.invokestatic 280, 3) := by decide +kernel
theorem dX11_undo_65 : decode cX11_undo 65 = .ok (.aload_n 0, 1) := by decide +kernel
theorem dX11_undo_66 : decode cX11_undo 66 = .ok (.getfield 80, 3) := by decide +kernel
theorem dX11_undo_69 : decode cX11_undo 69 = .ok (.ireturn, 1) := by decide +kernel
