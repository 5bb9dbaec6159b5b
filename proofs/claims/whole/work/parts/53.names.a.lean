theorem dX0_init_0 : decode cX0_init 0 = .ok (.aload_n 0, 1) := by decide +kernel
theorem dX0_init_1 : decode cX0_init 1 = .ok (.invokespecial 3, 3) := by decide +kernel
theorem dX0_init_4 : decode cX0_init 4 = .ok (.aload_n 0, 1) := by decide +kernel
theorem dX0_init_5 : decode cX0_init 5 = .ok (.sipush 128, 3) := by decide +kernel
theorem dX0_init_8 : decode cX0_init 8 = .ok (.bipush 7, 2) := by decide +kernel
theorem dX0_init_10 : decode cX0_init 10 = .ok (.multianewarray 9 2, 4) := by decide +kernel
theorem dX0_init_14 : decode cX0_init 14 = .ok (.putfield 11, 3) := by decide +kernel
theorem dX0_init_17 : decode cX0_init 17 = .ok (.return_, 1) := by decide +kernel
set_option maxRecDepth 20000 in
theorem ggX0_make_X5_everybody : GoodIn wsX0_make wsX5_everybody := goodIn_r _ [12, 13, 35, 36, 37, 38, 39] (by decide +kernel) (by decide +kernel)
set_option maxRecDepth 20000 in
theorem gX0_make_X5_everybody : GoodIn wsX0_make (wsV RX0 16 RX5 yX5_everybody wsX5_everybody) := goodIn_app (goodIn_of _ (by decide +kernel)) ggX0_make_X5_everybody
set_option maxRecDepth 20000 in
theorem ggX0_make_X0_bestFrom : GoodIn wsX0_make wsX0_bestFrom := goodIn_r _ [18, 1, 2, 4, 5, 6, 7, 19, 20, 21, 11, 22, 23, 24, 25, 26, 27, 13, 28, 29, 30, 31, 32, 33, 34, 35, 36, 37, 38, 39, 40, 41] (by decide +kernel) (by decide +kernel)
set_option maxRecDepth 20000 in
theorem gX0_make_X0_bestFrom : GoodIn wsX0_make (wsV RX0 26 RX0 yX0_bestFrom wsX0_bestFrom) := goodIn_app (goodIn_of _ (by decide +kernel)) ggX0_make_X0_bestFrom
theorem dX0_make_0 : decode cX0_make 0 = .ok (.aload_n 1, 1) := by decide +kernel
theorem dX0_make_1 : decode cX0_make 1 = .ok (.invokevirtual 16, 3) := by decide +kernel
theorem dX0_make_4 : decode cX0_make 4 = .ok (.istore_n 2, 1) := by decide +kernel
theorem dX0_make_5 : decode cX0_make 5 = .ok (.iload_n 2, 1) := by decide +kernel
theorem dX0_make_6 : decode cX0_make 6 = .ok (.ifCond .le 40, 3) := by decide +kernel
theorem dX0_make_9 : decode cX0_make 9 = .ok (.iconst 0, 1) := by decide +kernel
theorem dX0_make_10 : decode cX0_make 10 = .ok (.istore_n 3, 1) := by decide +kernel
theorem dX0_make_11 : decode cX0_make 11 = .ok (.iload_n 3, 1) := by decide +kernel
theorem dX0_make_12 : decode cX0_make 12 = .ok (.aload_n 1, 1) := by decide +kernel
theorem dX0_make_13 : decode cX0_make 13 = .ok (.getfield 22, 3) := by decide +kernel
theorem dX0_make_16 : decode cX0_make 16 = .ok (.if_icmp .ge 24, 3) := by decide +kernel
theorem dX0_make_19 : decode cX0_make 19 = .ok (.aload_n 0, 1) := by decide +kernel
theorem dX0_make_20 : decode cX0_make 20 = .ok (.getfield 11, 3) := by decide +kernel
theorem dX0_make_23 : decode cX0_make 23 = .ok (.iload_n 2, 1) := by decide +kernel
theorem dX0_make_24 : decode cX0_make 24 = .ok (.aaload, 1) := by decide +kernel
theorem dX0_make_25 : decode cX0_make 25 = .ok (.iload_n 3, 1) := by decide +kernel
theorem dX0_make_26 : decode cX0_make 26 = .ok (.aload_n 0, 1) := by decide +kernel
theorem dX0_make_27 : decode cX0_make 27 = .ok (.aload_n 1, 1) := by decide +kernel
theorem dX0_make_28 : decode cX0_make 28 = .ok (.iload_n 2, 1) := by decide +kernel
theorem dX0_make_29 : decode cX0_make 29 = .ok (.iload_n 3, 1) := by decide +kernel
theorem dX0_make_30 : decode cX0_make 30 = .ok (.invokevirtual 26, 3) := by decide +kernel
theorem dX0_make_33 : decode cX0_make 33 = .ok (.iastore, 1) := by decide +kernel
theorem dX0_make_34 : decode cX0_make 34 = .ok (.iinc 3 1, 3) := by decide +kernel
theorem dX0_make_37 : decode cX0_make 37 = .ok (.goto (-26), 3) := by decide +kernel
theorem dX0_make_40 : decode cX0_make 40 = .ok (.iinc 2 (-1), 3) := by decide +kernel
theorem dX0_make_43 : decode cX0_make 43 = .ok (.goto (-38), 3) := by decide +kernel
theorem dX0_make_46 : decode cX0_make 46 = .ok (.aload_n 0, 1) := by decide +kernel
theorem dX0_make_47 : decode cX0_make 47 = .ok (.iconst 0, 1) := by decide +kernel
theorem dX0_make_48 : decode cX0_make 48 = .ok (.putfield 30, 3) := by decide +kernel
theorem dX0_make_51 : decode cX0_make 51 = .ok (.iconst 0, 1) := by decide +kernel
theorem dX0_make_52 : decode cX0_make 52 = .ok (.istore_n 2, 1) := by decide +kernel
theorem dX0_make_53 : decode cX0_make 53 = .ok (.iload_n 2, 1) := by decide +kernel
theorem dX0_make_54 : decode cX0_make 54 = .ok (.aload_n 1, 1) := by decide +kernel
theorem dX0_make_55 : decode cX0_make 55 = .ok (.getfield 22, 3) := by decide +kernel
theorem dX0_make_58 : decode cX0_make 58 = .ok (.if_icmp .ge 30, 3) := by decide +kernel
theorem dX0_make_61 : decode cX0_make 61 = .ok (.aload_n 0, 1) := by decide +kernel
theorem dX0_make_62 : decode cX0_make 62 = .ok (.aload_n 0, 1) := by decide +kernel
theorem dX0_make_63 : decode cX0_make 63 = .ok (.getfield 30, 3) := by decide +kernel
theorem dX0_make_66 : decode cX0_make 66 = .ok (.aload_n 0, 1) := by decide +kernel
theorem dX0_make_67 : decode cX0_make 67 = .ok (.getfield 11, 3) := by decide +kernel
theorem dX0_make_70 : decode cX0_make 70 = .ok (.iconst 1, 1) := by decide +kernel
theorem dX0_make_71 : decode cX0_make 71 = .ok (.iload_n 2, 1) := by decide +kernel
theorem dX0_make_72 : decode cX0_make 72 = .ok (.ishl, 1) := by decide +kernel
theorem dX0_make_73 : decode cX0_make 73 = .ok (.aaload, 1) := by decide +kernel
theorem dX0_make_74 : decode cX0_make 74 = .ok (.iload_n 2, 1) := by decide +kernel
theorem dX0_make_75 : decode cX0_make 75 = .ok (.iaload, 1) := by decide +kernel
theorem dX0_make_76 : decode cX0_make 76 = .ok (.invokestatic 33, 3) := by decide +kernel
theorem dX0_make_79 : decode cX0_make 79 = .ok (.putfield 30, 3) := by decide +kernel
theorem dX0_make_82 : decode cX0_make 82 = .ok (.iinc 2 1, 3) := by decide +kernel
theorem dX0_make_85 : decode cX0_make 85 = .ok (.goto (-32), 3) := by decide +kernel
theorem dX0_make_88 : decode cX0_make 88 = .ok (.return_, 1) := by decide +kernel
set_option maxRecDepth 20000 in
theorem ggX0_bestFrom_X5_common : GoodIn wsX0_bestFrom wsX5_common := goodIn_r _ [11, 12, 13, 14, 15, 10, 16, 17, 18, 19, 20, 21, 22, 23, 24, 25, 26, 27, 28, 29] (by decide +kernel) (by decide +kernel)
set_option maxRecDepth 20000 in
theorem gX0_bestFrom_X5_common : GoodIn wsX0_bestFrom (wsV RX0 39 RX5 yX5_common wsX5_common) := goodIn_app (goodIn_of _ (by decide +kernel)) ggX0_bestFrom_X5_common
theorem dX0_bestFrom_0 : decode cX0_bestFrom 0 = .ok (.iconst 0, 1) := by decide +kernel
theorem dX0_bestFrom_1 : decode cX0_bestFrom 1 = .ok (.istore 4, 2) := by decide +kernel
theorem dX0_bestFrom_3 : decode cX0_bestFrom 3 = .ok (.iconst 0, 1) := by decide +kernel
theorem dX0_bestFrom_4 : decode cX0_bestFrom 4 = .ok (.istore 5, 2) := by decide +kernel
theorem dX0_bestFrom_6 : decode cX0_bestFrom 6 = .ok (.iload 5, 2) := by decide +kernel
theorem dX0_bestFrom_8 : decode cX0_bestFrom 8 = .ok (.aload_n 1, 1) := by decide +kernel
theorem dX0_bestFrom_9 : decode cX0_bestFrom 9 = .ok (.getfield 22, 3) := by decide +kernel
theorem dX0_bestFrom_12 : decode cX0_bestFrom 12 = .ok (.if_icmp .ge 47, 3) := by decide +kernel
theorem dX0_bestFrom_15 : decode cX0_bestFrom 15 = .ok (.iload_n 2, 1) := by decide +kernel
theorem dX0_bestFrom_16 : decode cX0_bestFrom 16 = .ok (.iload 5, 2) := by decide +kernel
theorem dX0_bestFrom_18 : decode cX0_bestFrom 18 = .ok (.ishr, 1) := by decide +kernel
theorem dX0_bestFrom_19 : decode cX0_bestFrom 19 = .ok (.iconst 1, 1) := by decide +kernel
theorem dX0_bestFrom_20 : decode cX0_bestFrom 20 = .ok (.iand, 1) := by decide +kernel
theorem dX0_bestFrom_21 : decode cX0_bestFrom 21 = .ok (.ifCond .ne 32, 3) := by decide +kernel
theorem dX0_bestFrom_24 : decode cX0_bestFrom 24 = .ok (.iload 4, 2) := by decide +kernel
theorem dX0_bestFrom_26 : decode cX0_bestFrom 26 = .ok (.aload_n 1, 1) := by decide +kernel
theorem dX0_bestFrom_27 : decode cX0_bestFrom 27 = .ok (.iload_n 3, 1) := by decide +kernel
theorem dX0_bestFrom_28 : decode cX0_bestFrom 28 = .ok (.iload 5, 2) := by decide +kernel
theorem dX0_bestFrom_30 : decode cX0_bestFrom 30 = .ok (.invokevirtual 39, 3) := by decide +kernel
theorem dX0_bestFrom_33 : decode cX0_bestFrom 33 = .ok (.aload_n 0, 1) := by decide +kernel
theorem dX0_bestFrom_34 : decode cX0_bestFrom 34 = .ok (.getfield 11, 3) := by decide +kernel
theorem dX0_bestFrom_37 : decode cX0_bestFrom 37 = .ok (.iload_n 2, 1) := by decide +kernel
theorem dX0_bestFrom_38 : decode cX0_bestFrom 38 = .ok (.iconst 1, 1) := by decide +kernel
theorem dX0_bestFrom_39 : decode cX0_bestFrom 39 = .ok (.iload 5, 2) := by decide +kernel
theorem dX0_bestFrom_41 : decode cX0_bestFrom 41 = .ok (.ishl, 1) := by decide +kernel
theorem dX0_bestFrom_42 : decode cX0_bestFrom 42 = .ok (.ior, 1) := by decide +kernel
theorem dX0_bestFrom_43 : decode cX0_bestFrom 43 = .ok (.aaload, 1) := by decide +kernel
theorem dX0_bestFrom_44 : decode cX0_bestFrom 44 = .ok (.iload 5, 2) := by decide +kernel
theorem dX0_bestFrom_46 : decode cX0_bestFrom 46 = .ok (.iaload, 1) := by decide +kernel
theorem dX0_bestFrom_47 : decode cX0_bestFrom 47 = .ok (.iadd, 1) := by decide +kernel
theorem dX0_bestFrom_48 : decode cX0_bestFrom 48 = .ok (.invokestatic 33, 3) := by decide +kernel
theorem dX0_bestFrom_51 : decode cX0_bestFrom 51 = .ok (.istore 4, 2) := by decide +kernel
theorem dX0_bestFrom_53 : decode cX0_bestFrom 53 = .ok (.iinc 5 1, 3) := by decide +kernel
theorem dX0_bestFrom_56 : decode cX0_bestFrom 56 = .ok (.goto (-50), 3) := by decide +kernel
theorem dX0_bestFrom_59 : decode cX0_bestFrom 59 = .ok (.iload 4, 2) := by decide +kernel
theorem dX0_bestFrom_61 : decode cX0_bestFrom 61 = .ok (.ireturn, 1) := by decide +kernel
set_option maxRecDepth 20000 in
theorem ggX0_firstOrder_X5_common : GoodIn wsX0_firstOrder wsX5_common := goodIn_r _ [8, 9, 10, 11, 12, 7, 13, 14, 15, 16, 17, 18, 19, 20, 21, 24, 25, 26, 27, 28] (by decide +kernel) (by decide +kernel)
set_option maxRecDepth 20000 in
theorem gX0_firstOrder_X5_common : GoodIn wsX0_firstOrder (wsV RX0 39 RX5 yX5_common wsX5_common) := goodIn_app (goodIn_of _ (by decide +kernel)) ggX0_firstOrder_X5_common
theorem dX0_firstOrder_0 : decode cX0_firstOrder 0 = .ok (.aload_n 0, 1) := by decide +kernel
theorem dX0_firstOrder_1 : decode cX0_firstOrder 1 = .ok (.getfield 30, 3) := by decide +kernel
theorem dX0_firstOrder_4 : decode cX0_firstOrder 4 = .ok (.istore_n 2, 1) := by decide +kernel
theorem dX0_firstOrder_5 : decode cX0_firstOrder 5 = .ok (.iconst 0, 1) := by decide +kernel
theorem dX0_firstOrder_6 : decode cX0_firstOrder 6 = .ok (.istore_n 3, 1) := by decide +kernel
theorem dX0_firstOrder_7 : decode cX0_firstOrder 7 = .ok (.iconst (-1), 1) := by decide +kernel
theorem dX0_firstOrder_8 : decode cX0_firstOrder 8 = .ok (.istore 4, 2) := by decide +kernel
theorem dX0_firstOrder_10 : decode cX0_firstOrder 10 = .ok (.iconst 0, 1) := by decide +kernel
theorem dX0_firstOrder_11 : decode cX0_firstOrder 11 = .ok (.istore 5, 2) := by decide +kernel
theorem dX0_firstOrder_13 : decode cX0_firstOrder 13 = .ok (.iconst 0, 1) := by decide +kernel
theorem dX0_firstOrder_14 : decode cX0_firstOrder 14 = .ok (.istore 6, 2) := by decide +kernel
theorem dX0_firstOrder_16 : decode cX0_firstOrder 16 = .ok (.iload 6, 2) := by decide +kernel
theorem dX0_firstOrder_18 : decode cX0_firstOrder 18 = .ok (.aload_n 1, 1) := by decide +kernel
theorem dX0_firstOrder_19 : decode cX0_firstOrder 19 = .ok (.getfield 22, 3) := by decide +kernel
theorem dX0_firstOrder_22 : decode cX0_firstOrder 22 = .ok (.if_icmp .ge 98, 3) := by decide +kernel
theorem dX0_firstOrder_25 : decode cX0_firstOrder 25 = .ok (.iconst 0, 1) := by decide +kernel
theorem dX0_firstOrder_26 : decode cX0_firstOrder 26 = .ok (.istore 7, 2) := by decide +kernel
theorem dX0_firstOrder_28 : decode cX0_firstOrder 28 = .ok (.iload 7, 2) := by decide +kernel
theorem dX0_firstOrder_30 : decode cX0_firstOrder 30 = .ok (.aload_n 1, 1) := by decide +kernel
theorem dX0_firstOrder_31 : decode cX0_firstOrder 31 = .ok (.getfield 22, 3) := by decide +kernel
theorem dX0_firstOrder_34 : decode cX0_firstOrder 34 = .ok (.if_icmp .ge 80, 3) := by decide +kernel
theorem dX0_firstOrder_37 : decode cX0_firstOrder 37 = .ok (.aload_n 1, 1) := by decide +kernel
theorem dX0_firstOrder_38 : decode cX0_firstOrder 38 = .ok (.iload 4, 2) := by decide +kernel
theorem dX0_firstOrder_40 : decode cX0_firstOrder 40 = .ok (.iload 7, 2) := by decide +kernel
theorem dX0_firstOrder_42 : decode cX0_firstOrder 42 = .ok (.invokevirtual 39, 3) := by decide +kernel
theorem dX0_firstOrder_45 : decode cX0_firstOrder 45 = .ok (.istore 8, 2) := by decide +kernel
theorem dX0_firstOrder_47 : decode cX0_firstOrder 47 = .ok (.iload_n 3, 1) := by decide +kernel
theorem dX0_firstOrder_48 : decode cX0_firstOrder 48 = .ok (.iload 7, 2) := by decide +kernel
theorem dX0_firstOrder_50 : decode cX0_firstOrder 50 = .ok (.ishr, 1) := by decide +kernel
theorem dX0_firstOrder_51 : decode cX0_firstOrder 51 = .ok (.iconst 1, 1) := by decide +kernel
theorem dX0_firstOrder_52 : decode cX0_firstOrder 52 = .ok (.iand, 1) := by decide +kernel
theorem dX0_firstOrder_53 : decode cX0_firstOrder 53 = .ok (.ifCond .ne 55, 3) := by decide +kernel
theorem dX0_firstOrder_56 : decode cX0_firstOrder 56 = .ok (.iload 8, 2) := by decide +kernel
theorem dX0_firstOrder_58 : decode cX0_firstOrder 58 = .ok (.aload_n 0, 1) := by decide +kernel
theorem dX0_firstOrder_59 : decode cX0_firstOrder 59 = .ok (.getfield 11, 3) := by decide +kernel
theorem dX0_firstOrder_62 : decode cX0_firstOrder 62 = .ok (.iload_n 3, 1) := by decide +kernel
theorem dX0_firstOrder_63 : decode cX0_firstOrder 63 = .ok (.iconst 1, 1) := by decide +kernel
theorem dX0_firstOrder_64 : decode cX0_firstOrder 64 = .ok (.iload 7, 2) := by decide +kernel
theorem dX0_firstOrder_66 : decode cX0_firstOrder 66 = .ok (.ishl, 1) := by decide +kernel
theorem dX0_firstOrder_67 : decode cX0_firstOrder 67 = .ok (.ior, 1) := by decide +kernel
theorem dX0_firstOrder_68 : decode cX0_firstOrder 68 = .ok (.aaload, 1) := by decide +kernel
theorem dX0_firstOrder_69 : decode cX0_firstOrder 69 = .ok (.iload 7, 2) := by decide +kernel
theorem dX0_firstOrder_71 : decode cX0_firstOrder 71 = .ok (.iaload, 1) := by decide +kernel
theorem dX0_firstOrder_72 : decode cX0_firstOrder 72 = .ok (.iadd, 1) := by decide +kernel
theorem dX0_firstOrder_73 : decode cX0_firstOrder 73 = .ok (.iload_n 2, 1) := by decide +kernel
theorem dX0_firstOrder_74 : decode cX0_firstOrder 74 = .ok (.if_icmp .ne 34, 3) := by decide +kernel
theorem dX0_firstOrder_77 : decode cX0_firstOrder 77 = .ok (.iload_n 2, 1) := by decide +kernel
theorem dX0_firstOrder_78 : decode cX0_firstOrder 78 = .ok (.iload 8, 2) := by decide +kernel
theorem dX0_firstOrder_80 : decode cX0_firstOrder 80 = .ok (.isub, 1) := by decide +kernel
theorem dX0_firstOrder_81 : decode cX0_firstOrder 81 = .ok (.istore_n 2, 1) := by decide +kernel
theorem dX0_firstOrder_82 : decode cX0_firstOrder 82 = .ok (.iload_n 3, 1) := by decide +kernel
theorem dX0_firstOrder_83 : decode cX0_firstOrder 83 = .ok (.iconst 1, 1) := by decide +kernel
theorem dX0_firstOrder_84 : decode cX0_firstOrder 84 = .ok (.iload 7, 2) := by decide +kernel
theorem dX0_firstOrder_86 : decode cX0_firstOrder 86 = .ok (.ishl, 1) := by decide +kernel
theorem dX0_firstOrder_87 : decode cX0_firstOrder 87 = .ok (.ior, 1) := by decide +kernel
theorem dX0_firstOrder_88 : decode cX0_firstOrder 88 = .ok (.istore_n 3, 1) := by decide +kernel
theorem dX0_firstOrder_89 : decode cX0_firstOrder 89 = .ok (.iload 7, 2) := by decide +kernel
theorem dX0_firstOrder_91 : decode cX0_firstOrder 91 = .ok (.istore 4, 2) := by decide +kernel
theorem dX0_firstOrder_93 : decode cX0_firstOrder 93 = .ok (.iload 5, 2) := by decide +kernel
theorem dX0_firstOrder_95 : decode cX0_firstOrder 95 = .ok (.bipush 10, 2) := by decide +kernel
theorem dX0_firstOrder_97 : decode cX0_firstOrder 97 = .ok (.imul, 1) := by decide +kernel
theorem dX0_firstOrder_98 : decode cX0_firstOrder 98 = .ok (.iload 7, 2) := by decide +kernel
theorem dX0_firstOrder_100 : decode cX0_firstOrder 100 = .ok (.iadd, 1) := by decide +kernel
theorem dX0_firstOrder_101 : decode cX0_firstOrder 101 = .ok (.iconst 1, 1) := by decide +kernel
theorem dX0_firstOrder_102 : decode cX0_firstOrder 102 = .ok (.iadd, 1) := by decide +kernel
theorem dX0_firstOrder_103 : decode cX0_firstOrder 103 = .ok (.istore 5, 2) := by decide +kernel
theorem dX0_firstOrder_105 : decode cX0_firstOrder 105 = .ok (.goto 9, 3) := by decide +kernel
theorem dX0_firstOrder_108 : decode cX0_firstOrder 108 = .ok (.iinc 7 1, 3) := by decide +kernel
theorem dX0_firstOrder_111 : decode cX0_firstOrder 111 = .ok (.goto (-83), 3) := by decide +kernel
theorem dX0_firstOrder_114 : decode cX0_firstOrder 114 = .ok (.iinc 6 1, 3) := by decide +kernel
theorem dX0_firstOrder_117 : decode cX0_firstOrder 117 = .ok (.goto (-101), 3) := by decide +kernel
theorem dX0_firstOrder_120 : decode cX0_firstOrder 120 = .ok (.iload 5, 2) := by decide +kernel
theorem dX0_firstOrder_122 : decode cX0_firstOrder 122 = .ok (.ireturn, 1) := by decide +kernel
theorem dX1_init_0 : decode cX1_init 0 = .ok (.aload_n 0, 1) := by decide +kernel
theorem dX1_init_1 : decode cX1_init 1 = .ok (.invokespecial 3, 3) := by decide +kernel
theorem dX1_init_4 : decode cX1_init 4 = .ok (.aload_n 0, 1) := by decide +kernel
theorem dX1_init_5 : decode cX1_init 5 = .ok (.iconst (-1), 1) := by decide +kernel
theorem dX1_init_6 : decode cX1_init 6 = .ok (.putfield 9, 3) := by decide +kernel
theorem dX1_init_9 : decode cX1_init 9 = .ok (.aload_n 0, 1) := by decide +kernel
theorem dX1_init_10 : decode cX1_init 10 = .ok (.bipush 30, 2) := by decide +kernel
theorem dX1_init_12 : decode cX1_init 12 = .ok (.newarray .int, 2) := by decide +kernel
theorem dX1_init_14 : decode cX1_init 14 = .ok (.putfield 15, 3) := by decide +kernel
theorem dX1_init_17 : decode cX1_init 17 = .ok (.return_, 1) := by decide +kernel
theorem dX1_become_0 : decode cX1_become 0 = .ok (.aload_n 0, 1) := by decide +kernel
theorem dX1_become_1 : decode cX1_become 1 = .ok (.iload_n 1, 1) := by decide +kernel
theorem dX1_become_2 : decode cX1_become 2 = .ok (.putfield 9, 3) := by decide +kernel
theorem dX1_become_5 : decode cX1_become 5 = .ok (.iconst 0, 1) := by decide +kernel
theorem dX1_become_6 : decode cX1_become 6 = .ok (.istore_n 2, 1) := by decide +kernel
theorem dX1_become_7 : decode cX1_become 7 = .ok (.iload_n 2, 1) := by decide +kernel
theorem dX1_become_8 : decode cX1_become 8 = .ok (.bipush 30, 2) := by decide +kernel
theorem dX1_become_10 : decode cX1_become 10 = .ok (.if_icmp .ge 16, 3) := by decide +kernel
theorem dX1_become_13 : decode cX1_become 13 = .ok (.aload_n 0, 1) := by decide +kernel
theorem dX1_become_14 : decode cX1_become 14 = .ok (.getfield 15, 3) := by decide +kernel
theorem dX1_become_17 : decode cX1_become 17 = .ok (.iload_n 2, 1) := by decide +kernel
theorem dX1_become_18 : decode cX1_become 18 = .ok (.iconst 0, 1) := by decide +kernel
theorem dX1_become_19 : decode cX1_become 19 = .ok (.iastore, 1) := by decide +kernel
theorem dX1_become_20 : decode cX1_become 20 = .ok (.iinc 2 1, 3) := by decide +kernel
theorem dX1_become_23 : decode cX1_become 23 = .ok (.goto (-16), 3) := by decide +kernel
theorem dX1_become_26 : decode cX1_become 26 = .ok (.return_, 1) := by decide +kernel
theorem dX1_isMissing_0 : decode cX1_isMissing 0 = .ok (.aload_n 0, 1) := by decide +kernel
theorem dX1_isMissing_1 : decode cX1_isMissing 1 = .ok (.getfield 9, 3) := by decide +kernel
theorem dX1_isMissing_4 : decode cX1_isMissing 4 = .ok (.ifCond .ge 7, 3) := by decide +kernel
theorem dX1_isMissing_7 : decode cX1_isMissing 7 = .ok (.iconst 1, 1) := by decide +kernel
theorem dX1_isMissing_8 : decode cX1_isMissing 8 = .ok (.goto 4, 3) := by decide +kernel
theorem dX1_isMissing_11 : decode cX1_isMissing 11 = .ok (.iconst 0, 1) := by decide +kernel
theorem dX1_isMissing_12 : decode cX1_isMissing 12 = .ok (.ireturn, 1) := by decide +kernel
theorem dX1_reaches_0 : decode cX1_reaches 0 = .ok (.iload_n 1, 1) := by decide +kernel
theorem dX1_reaches_1 : decode cX1_reaches 1 = .ok (.ifCond .lt 15, 3) := by decide +kernel
theorem dX1_reaches_4 : decode cX1_reaches 4 = .ok (.iload_n 1, 1) := by decide +kernel
theorem dX1_reaches_5 : decode cX1_reaches 5 = .ok (.aload_n 0, 1) := by decide +kernel
theorem dX1_reaches_6 : decode cX1_reaches 6 = .ok (.getfield 9, 3) := by decide +kernel
theorem dX1_reaches_9 : decode cX1_reaches 9 = .ok (.if_icmp .ge 7, 3) := by decide +kernel
theorem dX1_reaches_12 : decode cX1_reaches 12 = .ok (.iconst 1, 1) := by decide +kernel
theorem dX1_reaches_13 : decode cX1_reaches 13 = .ok (.goto 4, 3) := by decide +kernel
theorem dX1_reaches_16 : decode cX1_reaches 16 = .ok (.iconst 0, 1) := by decide +kernel
theorem dX1_reaches_17 : decode cX1_reaches 17 = .ok (.ireturn, 1) := by decide +kernel
set_option maxRecDepth 20000 in
theorem ggX2_length_X2_letter : GoodIn wsX2_length wsX2_letter := goodIn_r _ [4, 5] (by decide +kernel) (by decide +kernel)
set_option maxRecDepth 20000 in
theorem gX2_length_X2_letter : GoodIn wsX2_length (va_wsS RX2 9 yX2_letter wsX2_letter) := goodIn_app (goodIn_of _ (by decide +kernel)) ggX2_length_X2_letter
theorem dX2_length_0 : decode cX2_length 0 = .ok (.iconst 0, 1) := by decide +kernel
theorem dX2_length_1 : decode cX2_length 1 = .ok (.istore_n 1, 1) := by decide +kernel
theorem dX2_length_2 : decode cX2_length 2 = .ok (.iconst 0, 1) := by decide +kernel
theorem dX2_length_3 : decode cX2_length 3 = .ok (.istore_n 2, 1) := by decide +kernel
theorem dX2_length_4 : decode cX2_length 4 = .ok (.iload_n 2, 1) := by decide +kernel
theorem dX2_length_5 : decode cX2_length 5 = .ok (.bipush 6, 2) := by decide +kernel
theorem dX2_length_7 : decode cX2_length 7 = .ok (.if_icmp .ge 20, 3) := by decide +kernel
theorem dX2_length_10 : decode cX2_length 10 = .ok (.iload_n 0, 1) := by decide +kernel
theorem dX2_length_11 : decode cX2_length 11 = .ok (.iload_n 2, 1) := by decide +kernel
theorem dX2_length_12 : decode cX2_length 12 = .ok (.invokestatic 9, 3) := by decide +kernel
theorem dX2_length_15 : decode cX2_length 15 = .ok (.ifCond .lt 12, 3) := by decide +kernel
theorem dX2_length_18 : decode cX2_length 18 = .ok (.iinc 1 1, 3) := by decide +kernel
theorem dX2_length_21 : decode cX2_length 21 = .ok (.iinc 2 1, 3) := by decide +kernel
theorem dX2_length_24 : decode cX2_length 24 = .ok (.goto (-20), 3) := by decide +kernel
theorem dX2_length_27 : decode cX2_length 27 = .ok (.iload_n 1, 1) := by decide +kernel
theorem dX2_length_28 : decode cX2_length 28 = .ok (.ireturn, 1) := by decide +kernel
theorem dX2_letter_0 : decode cX2_letter 0 = .ok (.iload_n 1, 1) := by decide +kernel
theorem dX2_letter_1 : decode cX2_letter 1 = .ok (.ifCond .lt 9, 3) := by decide +kernel
theorem dX2_letter_4 : decode cX2_letter 4 = .ok (.iload_n 1, 1) := by decide +kernel
theorem dX2_letter_5 : decode cX2_letter 5 = .ok (.bipush 6, 2) := by decide +kernel
theorem dX2_letter_7 : decode cX2_letter 7 = .ok (.if_icmp .lt 5, 3) := by decide +kernel
theorem dX2_letter_10 : decode cX2_letter 10 = .ok (.iconst (-1), 1) := by decide +kernel
theorem dX2_letter_11 : decode cX2_letter 11 = .ok (.ireturn, 1) := by decide +kernel
theorem dX2_letter_12 : decode cX2_letter 12 = .ok (.iload_n 0, 1) := by decide +kernel
theorem dX2_letter_13 : decode cX2_letter 13 = .ok (.getstatic 15, 3) := by decide +kernel
theorem dX2_letter_16 : decode cX2_letter 16 = .ok (.iload_n 1, 1) := by decide +kernel
theorem dX2_letter_17 : decode cX2_letter 17 = .ok (.iaload, 1) := by decide +kernel
theorem dX2_letter_18 : decode cX2_letter 18 = .ok (.idiv, 1) := by decide +kernel
theorem dX2_letter_19 : decode cX2_letter 19 = .ok (.bipush 27, 2) := by decide +kernel
theorem dX2_letter_21 : decode cX2_letter 21 = .ok (.irem, 1) := by decide +kernel
theorem dX2_letter_22 : decode cX2_letter 22 = .ok (.istore_n 2, 1) := by decide +kernel
theorem dX2_letter_23 : decode cX2_letter 23 = .ok (.iload_n 2, 1) := by decide +kernel
theorem dX2_letter_24 : decode cX2_letter 24 = .ok (.ifCond .ne 7, 3) := by decide +kernel
theorem dX2_letter_27 : decode cX2_letter 27 = .ok (.iconst (-1), 1) := by decide +kernel
theorem dX2_letter_28 : decode cX2_letter 28 = .ok (.goto 9, 3) := by decide +kernel
theorem dX2_letter_31 : decode cX2_letter 31 = .ok (.bipush 97, 2) := by decide +kernel
theorem dX2_letter_33 : decode cX2_letter 33 = .ok (.iload_n 2, 1) := by decide +kernel
theorem dX2_letter_34 : decode cX2_letter 34 = .ok (.iadd, 1) := by decide +kernel
theorem dX2_letter_35 : decode cX2_letter 35 = .ok (.iconst 1, 1) := by decide +kernel
theorem dX2_letter_36 : decode cX2_letter 36 = .ok (.isub, 1) := by decide +kernel
theorem dX2_letter_37 : decode cX2_letter 37 = .ok (.ireturn, 1) := by decide +kernel
theorem dX3_init_0 : decode cX3_init 0 = .ok (.aload_n 0, 1) := by decide +kernel
theorem dX3_init_1 : decode cX3_init 1 = .ok (.invokespecial 3, 3) := by decide +kernel
theorem dX3_init_4 : decode cX3_init 4 = .ok (.aload_n 0, 1) := by decide +kernel
theorem dX3_init_5 : decode cX3_init 5 = .ok (.bipush 7, 2) := by decide +kernel
theorem dX3_init_7 : decode cX3_init 7 = .ok (.newarray .int, 2) := by decide +kernel
theorem dX3_init_9 : decode cX3_init 9 = .ok (.putfield 9, 3) := by decide +kernel
theorem dX3_init_12 : decode cX3_init 12 = .ok (.aload_n 0, 1) := by decide +kernel
theorem dX3_init_13 : decode cX3_init 13 = .ok (.sipush 128, 3) := by decide +kernel
theorem dX3_init_16 : decode cX3_init 16 = .ok (.newarray .int, 2) := by decide +kernel
theorem dX3_init_18 : decode cX3_init 18 = .ok (.putfield 15, 3) := by decide +kernel
theorem dX3_init_21 : decode cX3_init 21 = .ok (.aload_n 0, 1) := by decide +kernel
theorem dX3_init_22 : decode cX3_init 22 = .ok (.sipush 128, 3) := by decide +kernel
theorem dX3_init_25 : decode cX3_init 25 = .ok (.newarray .int, 2) := by decide +kernel
theorem dX3_init_27 : decode cX3_init 27 = .ok (.putfield 18, 3) := by decide +kernel
theorem dX3_init_30 : decode cX3_init 30 = .ok (.aload_n 0, 1) := by decide +kernel
theorem dX3_init_31 : decode cX3_init 31 = .ok (.sipush 128, 3) := by decide +kernel
theorem dX3_init_34 : decode cX3_init 34 = .ok (.newarray .int, 2) := by decide +kernel
theorem dX3_init_36 : decode cX3_init 36 = .ok (.putfield 21, 3) := by decide +kernel
theorem dX3_init_39 : decode cX3_init 39 = .ok (.return_, 1) := by decide +kernel
set_option maxRecDepth 20000 in
theorem ggX3_make_X5_holds : GoodIn wsX3_make wsX5_holds := goodIn_r _ [11, 12, 46, 47, 48, 49, 50] (by decide +kernel) (by decide +kernel)
set_option maxRecDepth 20000 in
theorem gX3_make_X5_holds : GoodIn wsX3_make (wsV RX3 34 RX5 yX5_holds wsX5_holds) := goodIn_app (goodIn_of _ (by decide +kernel)) ggX3_make_X5_holds
set_option maxRecDepth 20000 in
theorem ggX3_make_J6_numberOfTrailingZeros_0f7a4 : GoodIn wsX3_make wsJ6_numberOfTrailingZeros_0f7a4 := goodIn_r _ [16, 17] (by decide +kernel) (by decide +kernel)
set_option maxRecDepth 20000 in
theorem gX3_make_J6_numberOfTrailingZeros_0f7a4 : GoodIn wsX3_make (va_wsS RX3 41 yJ6_numberOfTrailingZeros_0f7a4 wsJ6_numberOfTrailingZeros_0f7a4) := goodIn_app (goodIn_of _ (by decide +kernel)) ggX3_make_J6_numberOfTrailingZeros_0f7a4
set_option maxRecDepth 20000 in
theorem ggX3_make_X3_settle : GoodIn wsX3_make wsX3_settle := goodIn_r _ [22, 1, 23, 24, 25, 26, 27, 21, 28, 2, 3, 29, 30, 31, 32, 6, 4, 33, 34, 15, 35, 36, 37, 38, 39, 40, 41, 42, 43, 44, 45] (by decide +kernel) (by decide +kernel)
set_option maxRecDepth 20000 in
theorem gX3_make_X3_settle : GoodIn wsX3_make (wsV RX3 47 RX3 yX3_settle wsX3_settle) := goodIn_app (goodIn_of _ (by decide +kernel)) ggX3_make_X3_settle
theorem dX3_make_0 : decode cX3_make 0 = .ok (.aload_n 0, 1) := by decide +kernel
theorem dX3_make_1 : decode cX3_make 1 = .ok (.iload_n 2, 1) := by decide +kernel
theorem dX3_make_2 : decode cX3_make 2 = .ok (.putfield 24, 3) := by decide +kernel
theorem dX3_make_5 : decode cX3_make 5 = .ok (.aload_n 0, 1) := by decide +kernel
theorem dX3_make_6 : decode cX3_make 6 = .ok (.iload 4, 2) := by decide +kernel
theorem dX3_make_8 : decode cX3_make 8 = .ok (.putfield 28, 3) := by decide +kernel
theorem dX3_make_11 : decode cX3_make 11 = .ok (.aload_n 0, 1) := by decide +kernel
theorem dX3_make_12 : decode cX3_make 12 = .ok (.iload 5, 2) := by decide +kernel
theorem dX3_make_14 : decode cX3_make 14 = .ok (.putfield 31, 3) := by decide +kernel
theorem dX3_make_17 : decode cX3_make 17 = .ok (.iconst 0, 1) := by decide +kernel
theorem dX3_make_18 : decode cX3_make 18 = .ok (.istore 6, 2) := by decide +kernel
theorem dX3_make_20 : decode cX3_make 20 = .ok (.iload 6, 2) := by decide +kernel
theorem dX3_make_22 : decode cX3_make 22 = .ok (.bipush 7, 2) := by decide +kernel
theorem dX3_make_24 : decode cX3_make 24 = .ok (.if_icmp .ge 38, 3) := by decide +kernel
theorem dX3_make_27 : decode cX3_make 27 = .ok (.aload_n 0, 1) := by decide +kernel
theorem dX3_make_28 : decode cX3_make 28 = .ok (.getfield 9, 3) := by decide +kernel
theorem dX3_make_31 : decode cX3_make 31 = .ok (.iload 6, 2) := by decide +kernel
theorem dX3_make_33 : decode cX3_make 33 = .ok (.aload_n 1, 1) := by decide +kernel
theorem dX3_make_34 : decode cX3_make 34 = .ok (.iload 6, 2) := by decide +kernel
theorem dX3_make_36 : decode cX3_make 36 = .ok (.invokevirtual 34, 3) := by decide +kernel
theorem dX3_make_39 : decode cX3_make 39 = .ok (.ifCond .eq 15, 3) := by decide +kernel
theorem dX3_make_42 : decode cX3_make 42 = .ok (.aload_n 1, 1) := by decide +kernel
theorem dX3_make_43 : decode cX3_make 43 = .ok (.getfield 40, 3) := by decide +kernel
theorem dX3_make_46 : decode cX3_make 46 = .ok (.iload 6, 2) := by decide +kernel
theorem dX3_make_48 : decode cX3_make 48 = .ok (.iaload, 1) := by decide +kernel
theorem dX3_make_49 : decode cX3_make 49 = .ok (.iload_n 3, 1) := by decide +kernel
theorem dX3_make_50 : decode cX3_make 50 = .ok (.iand, 1) := by decide +kernel
theorem dX3_make_51 : decode cX3_make 51 = .ok (.goto 4, 3) := by decide +kernel
theorem dX3_make_54 : decode cX3_make 54 = .ok (.iconst 0, 1) := by decide +kernel
theorem dX3_make_55 : decode cX3_make 55 = .ok (.iastore, 1) := by decide +kernel
theorem dX3_make_56 : decode cX3_make 56 = .ok (.iinc 6 1, 3) := by decide +kernel
theorem dX3_make_59 : decode cX3_make 59 = .ok (.goto (-39), 3) := by decide +kernel
theorem dX3_make_62 : decode cX3_make 62 = .ok (.iconst 1, 1) := by decide +kernel
theorem dX3_make_63 : decode cX3_make 63 = .ok (.istore 6, 2) := by decide +kernel
theorem dX3_make_65 : decode cX3_make 65 = .ok (.iload 6, 2) := by decide +kernel
theorem dX3_make_67 : decode cX3_make 67 = .ok (.aload_n 0, 1) := by decide +kernel
theorem dX3_make_68 : decode cX3_make 68 = .ok (.getfield 24, 3) := by decide +kernel
theorem dX3_make_71 : decode cX3_make 71 = .ok (.if_icmp .gt 39, 3) := by decide +kernel
theorem dX3_make_74 : decode cX3_make 74 = .ok (.aload_n 0, 1) := by decide +kernel
theorem dX3_make_75 : decode cX3_make 75 = .ok (.getfield 15, 3) := by decide +kernel
theorem dX3_make_78 : decode cX3_make 78 = .ok (.iload 6, 2) := by decide +kernel
theorem dX3_make_80 : decode cX3_make 80 = .ok (.aload_n 0, 1) := by decide +kernel
theorem dX3_make_81 : decode cX3_make 81 = .ok (.getfield 15, 3) := by decide +kernel
theorem dX3_make_84 : decode cX3_make 84 = .ok (.iload 6, 2) := by decide +kernel
theorem dX3_make_86 : decode cX3_make 86 = .ok (.iload 6, 2) := by decide +kernel
theorem dX3_make_88 : decode cX3_make 88 = .ok (.iconst 1, 1) := by decide +kernel
theorem dX3_make_89 : decode cX3_make 89 = .ok (.isub, 1) := by decide +kernel
theorem dX3_make_90 : decode cX3_make 90 = .ok (.iand, 1) := by decide +kernel
theorem dX3_make_91 : decode cX3_make 91 = .ok (.iaload, 1) := by decide +kernel
theorem dX3_make_92 : decode cX3_make 92 = .ok (.aload_n 0, 1) := by decide +kernel
theorem dX3_make_93 : decode cX3_make 93 = .ok (.getfield 9, 3) := by decide +kernel
theorem dX3_make_96 : decode cX3_make 96 = .ok (.iload 6, 2) := by decide +kernel
theorem dX3_make_98 : decode cX3_make 98 = .ok (.invokestatic 41, 3) := by decide +kernel
theorem dX3_make_101 : decode cX3_make 101 = .ok (.iaload, 1) := by decide +kernel
theorem dX3_make_102 : decode cX3_make 102 = .ok (.ior, 1) := by decide +kernel
theorem dX3_make_103 : decode cX3_make 103 = .ok (.iastore, 1) := by decide +kernel
theorem dX3_make_104 : decode cX3_make 104 = .ok (.iinc 6 1, 3) := by decide +kernel
theorem dX3_make_107 : decode cX3_make 107 = .ok (.goto (-42), 3) := by decide +kernel
theorem dX3_make_110 : decode cX3_make 110 = .ok (.aload_n 0, 1) := by decide +kernel
theorem dX3_make_111 : decode cX3_make 111 = .ok (.getfield 24, 3) := by decide +kernel
theorem dX3_make_114 : decode cX3_make 114 = .ok (.istore 6, 2) := by decide +kernel
theorem dX3_make_116 : decode cX3_make 116 = .ok (.iload 6, 2) := by decide +kernel
theorem dX3_make_118 : decode cX3_make 118 = .ok (.ifCond .lt 27, 3) := by decide +kernel
theorem dX3_make_121 : decode cX3_make 121 = .ok (.iload 6, 2) := by decide +kernel
theorem dX3_make_123 : decode cX3_make 123 = .ok (.aload_n 0, 1) := by decide +kernel
theorem dX3_make_124 : decode cX3_make 124 = .ok (.getfield 24, 3) := by decide +kernel
theorem dX3_make_127 : decode cX3_make 127 = .ok (.iconst (-1), 1) := by decide +kernel
theorem dX3_make_128 : decode cX3_make 128 = .ok (.ixor, 1) := by decide +kernel
theorem dX3_make_129 : decode cX3_make 129 = .ok (.iand, 1) := by decide +kernel
theorem dX3_make_130 : decode cX3_make 130 = .ok (.ifCond .ne 9, 3) := by decide +kernel
theorem dX3_make_133 : decode cX3_make 133 = .ok (.aload_n 0, 1) := by decide +kernel
theorem dX3_make_134 : decode cX3_make 134 = .ok (.iload 6, 2) := by decide +kernel
theorem dX3_make_136 : decode cX3_make 136 = .ok (.invokevirtual 47, 3) := by decide +kernel
theorem dX3_make_139 : decode cX3_make 139 = .ok (.iinc 6 (-1), 3) := by decide +kernel
theorem dX3_make_142 : decode cX3_make 142 = .ok (.goto (-26), 3) := by decide +kernel
theorem dX3_make_145 : decode cX3_make 145 = .ok (.return_, 1) := by decide +kernel
set_option maxRecDepth 20000 in
theorem ggX3_settle_X3_mayFollow : GoodIn wsX3_settle wsX3_mayFollow := goodIn_r _ [8, 1, 9, 10, 24, 25, 26, 27, 28, 29, 30] (by decide +kernel) (by decide +kernel)
set_option maxRecDepth 20000 in
theorem gX3_settle_X3_mayFollow : GoodIn wsX3_settle (wsV RX3 51 RX3 yX3_mayFollow wsX3_mayFollow) := goodIn_app (goodIn_of _ (by decide +kernel)) ggX3_settle_X3_mayFollow
set_option maxRecDepth 20000 in
theorem ggX3_settle_X3_toll : GoodIn wsX3_settle wsX3_toll := goodIn_r _ [14, 15, 1, 16, 17, 18, 19, 20, 21, 22, 23, 24, 25, 26, 27, 28, 29, 30] (by decide +kernel) (by decide +kernel)
set_option maxRecDepth 20000 in
theorem gX3_settle_X3_toll : GoodIn wsX3_settle (wsV RX3 55 RX3 yX3_toll wsX3_toll) := goodIn_app (goodIn_of _ (by decide +kernel)) ggX3_settle_X3_toll
theorem dX3_settle_0 : decode cX3_settle 0 = .ok (.iload_n 1, 1) := by decide +kernel
theorem dX3_settle_1 : decode cX3_settle 1 = .ok (.aload_n 0, 1) := by decide +kernel
theorem dX3_settle_2 : decode cX3_settle 2 = .ok (.getfield 24, 3) := by decide +kernel
theorem dX3_settle_5 : decode cX3_settle 5 = .ok (.if_icmp .ne 7, 3) := by decide +kernel
theorem dX3_settle_8 : decode cX3_settle 8 = .ok (.iconst 0, 1) := by decide +kernel
theorem dX3_settle_9 : decode cX3_settle 9 = .ok (.goto 6, 3) := by decide +kernel
theorem dX3_settle_12 : decode cX3_settle 12 = .ok (.sipush 1000, 3) := by decide +kernel
theorem dX3_settle_15 : decode cX3_settle 15 = .ok (.istore_n 2, 1) := by decide +kernel
theorem dX3_settle_16 : decode cX3_settle 16 = .ok (.iload_n 1, 1) := by decide +kernel
theorem dX3_settle_17 : decode cX3_settle 17 = .ok (.aload_n 0, 1) := by decide +kernel
theorem dX3_settle_18 : decode cX3_settle 18 = .ok (.getfield 24, 3) := by decide +kernel
theorem dX3_settle_21 : decode cX3_settle 21 = .ok (.if_icmp .ne 7, 3) := by decide +kernel
theorem dX3_settle_24 : decode cX3_settle 24 = .ok (.iconst 1, 1) := by decide +kernel
theorem dX3_settle_25 : decode cX3_settle 25 = .ok (.goto 4, 3) := by decide +kernel
theorem dX3_settle_28 : decode cX3_settle 28 = .ok (.iconst 0, 1) := by decide +kernel
theorem dX3_settle_29 : decode cX3_settle 29 = .ok (.istore_n 3, 1) := by decide +kernel
theorem dX3_settle_30 : decode cX3_settle 30 = .ok (.iconst 0, 1) := by decide +kernel
theorem dX3_settle_31 : decode cX3_settle 31 = .ok (.istore 4, 2) := by decide +kernel
theorem dX3_settle_33 : decode cX3_settle 33 = .ok (.iload 4, 2) := by decide +kernel
theorem dX3_settle_35 : decode cX3_settle 35 = .ok (.bipush 7, 2) := by decide +kernel
theorem dX3_settle_37 : decode cX3_settle 37 = .ok (.if_icmp .ge 71, 3) := by decide +kernel
theorem dX3_settle_40 : decode cX3_settle 40 = .ok (.aload_n 0, 1) := by decide +kernel
theorem dX3_settle_41 : decode cX3_settle 41 = .ok (.iload_n 1, 1) := by decide +kernel
theorem dX3_settle_42 : decode cX3_settle 42 = .ok (.iload 4, 2) := by decide +kernel
theorem dX3_settle_44 : decode cX3_settle 44 = .ok (.invokevirtual 51, 3) := by decide +kernel
theorem dX3_settle_47 : decode cX3_settle 47 = .ok (.ifCond .eq 55, 3) := by decide +kernel
theorem dX3_settle_50 : decode cX3_settle 50 = .ok (.iload_n 1, 1) := by decide +kernel
theorem dX3_settle_51 : decode cX3_settle 51 = .ok (.iconst 1, 1) := by decide +kernel
theorem dX3_settle_52 : decode cX3_settle 52 = .ok (.iload 4, 2) := by decide +kernel
theorem dX3_settle_54 : decode cX3_settle 54 = .ok (.ishl, 1) := by decide +kernel
theorem dX3_settle_55 : decode cX3_settle 55 = .ok (.ior, 1) := by decide +kernel
theorem dX3_settle_56 : decode cX3_settle 56 = .ok (.istore 5, 2) := by decide +kernel
theorem dX3_settle_58 : decode cX3_settle 58 = .ok (.aload_n 0, 1) := by decide +kernel
theorem dX3_settle_59 : decode cX3_settle 59 = .ok (.iload_n 1, 1) := by decide +kernel
theorem dX3_settle_60 : decode cX3_settle 60 = .ok (.iload 4, 2) := by decide +kernel
theorem dX3_settle_62 : decode cX3_settle 62 = .ok (.invokevirtual 55, 3) := by decide +kernel
theorem dX3_settle_65 : decode cX3_settle 65 = .ok (.aload_n 0, 1) := by decide +kernel
theorem dX3_settle_66 : decode cX3_settle 66 = .ok (.getfield 18, 3) := by decide +kernel
theorem dX3_settle_69 : decode cX3_settle 69 = .ok (.iload 5, 2) := by decide +kernel
theorem dX3_settle_71 : decode cX3_settle 71 = .ok (.iaload, 1) := by decide +kernel
theorem dX3_settle_72 : decode cX3_settle 72 = .ok (.iadd, 1) := by decide +kernel
theorem dX3_settle_73 : decode cX3_settle 73 = .ok (.istore 6, 2) := by decide +kernel
theorem dX3_settle_75 : decode cX3_settle 75 = .ok (.iload 6, 2) := by decide +kernel
theorem dX3_settle_77 : decode cX3_settle 77 = .ok (.iload_n 2, 1) := by decide +kernel
theorem dX3_settle_78 : decode cX3_settle 78 = .ok (.if_icmp .ge 8, 3) := by decide +kernel
theorem dX3_settle_81 : decode cX3_settle 81 = .ok (.iload 6, 2) := by decide +kernel
theorem dX3_settle_83 : decode cX3_settle 83 = .ok (.istore_n 2, 1) := by decide +kernel
theorem dX3_settle_84 : decode cX3_settle 84 = .ok (.iconst 0, 1) := by decide +kernel
theorem dX3_settle_85 : decode cX3_settle 85 = .ok (.istore_n 3, 1) := by decide +kernel
theorem dX3_settle_86 : decode cX3_settle 86 = .ok (.iload 6, 2) := by decide +kernel
theorem dX3_settle_88 : decode cX3_settle 88 = .ok (.iload_n 2, 1) := by decide +kernel
theorem dX3_settle_89 : decode cX3_settle 89 = .ok (.if_icmp .ne 13, 3) := by decide +kernel
theorem dX3_settle_92 : decode cX3_settle 92 = .ok (.iload_n 3, 1) := by decide +kernel
theorem dX3_settle_93 : decode cX3_settle 93 = .ok (.aload_n 0, 1) := by decide +kernel
theorem dX3_settle_94 : decode cX3_settle 94 = .ok (.getfield 21, 3) := by decide +kernel
theorem dX3_settle_97 : decode cX3_settle 97 = .ok (.iload 5, 2) := by decide +kernel
theorem dX3_settle_99 : decode cX3_settle 99 = .ok (.iaload, 1) := by decide +kernel
theorem dX3_settle_100 : decode cX3_settle 100 = .ok (.iadd, 1) := by decide +kernel
theorem dX3_settle_101 : decode cX3_settle 101 = .ok (.istore_n 3, 1) := by decide +kernel
theorem dX3_settle_102 : decode cX3_settle 102 = .ok (.iinc 4 1, 3) := by decide +kernel
theorem dX3_settle_105 : decode cX3_settle 105 = .ok (.goto (-72), 3) := by decide +kernel
theorem dX3_settle_108 : decode cX3_settle 108 = .ok (.aload_n 0, 1) := by decide +kernel
theorem dX3_settle_109 : decode cX3_settle 109 = .ok (.getfield 18, 3) := by decide +kernel
theorem dX3_settle_112 : decode cX3_settle 112 = .ok (.iload_n 1, 1) := by decide +kernel
theorem dX3_settle_113 : decode cX3_settle 113 = .ok (.iload_n 2, 1) := by decide +kernel
theorem dX3_settle_114 : decode cX3_settle 114 = .ok (.iastore, 1) := by decide +kernel
theorem dX3_settle_115 : decode cX3_settle 115 = .ok (.aload_n 0, 1) := by decide +kernel
theorem dX3_settle_116 : decode cX3_settle 116 = .ok (.getfield 21, 3) := by decide +kernel
theorem dX3_settle_119 : decode cX3_settle 119 = .ok (.iload_n 1, 1) := by decide +kernel
theorem dX3_settle_120 : decode cX3_settle 120 = .ok (.iload_n 3, 1) := by decide +kernel
theorem dX3_settle_121 : decode cX3_settle 121 = .ok (.iastore, 1) := by decide +kernel
theorem dX3_settle_122 : decode cX3_settle 122 = .ok (.return_, 1) := by decide +kernel
theorem dX3_mayFollow_0 : decode cX3_mayFollow 0 = .ok (.iconst 1, 1) := by decide +kernel
theorem dX3_mayFollow_1 : decode cX3_mayFollow 1 = .ok (.iload_n 2, 1) := by decide +kernel
theorem dX3_mayFollow_2 : decode cX3_mayFollow 2 = .ok (.ishl, 1) := by decide +kernel
theorem dX3_mayFollow_3 : decode cX3_mayFollow 3 = .ok (.istore_n 3, 1) := by decide +kernel
theorem dX3_mayFollow_4 : decode cX3_mayFollow 4 = .ok (.aload_n 0, 1) := by decide +kernel
theorem dX3_mayFollow_5 : decode cX3_mayFollow 5 = .ok (.getfield 24, 3) := by decide +kernel
theorem dX3_mayFollow_8 : decode cX3_mayFollow 8 = .ok (.iload_n 1, 1) := by decide +kernel
theorem dX3_mayFollow_9 : decode cX3_mayFollow 9 = .ok (.iconst (-1), 1) := by decide +kernel
theorem dX3_mayFollow_10 : decode cX3_mayFollow 10 = .ok (.ixor, 1) := by decide +kernel
theorem dX3_mayFollow_11 : decode cX3_mayFollow 11 = .ok (.iand, 1) := by decide +kernel
theorem dX3_mayFollow_12 : decode cX3_mayFollow 12 = .ok (.iload_n 3, 1) := by decide +kernel
theorem dX3_mayFollow_13 : decode cX3_mayFollow 13 = .ok (.iand, 1) := by decide +kernel
theorem dX3_mayFollow_14 : decode cX3_mayFollow 14 = .ok (.ifCond .ne 5, 3) := by decide +kernel
theorem dX3_mayFollow_17 : decode cX3_mayFollow 17 = .ok (.iconst 0, 1) := by decide +kernel
theorem dX3_mayFollow_18 : decode cX3_mayFollow 18 = .ok (.ireturn, 1) := by decide +kernel
theorem dX3_mayFollow_19 : decode cX3_mayFollow 19 = .ok (.aload_n 0, 1) := by decide +kernel
theorem dX3_mayFollow_20 : decode cX3_mayFollow 20 = .ok (.getfield 28, 3) := by decide +kernel
theorem dX3_mayFollow_23 : decode cX3_mayFollow 23 = .ok (.ifCond .lt 30, 3) := by decide +kernel
theorem dX3_mayFollow_26 : decode cX3_mayFollow 26 = .ok (.iload_n 2, 1) := by decide +kernel
theorem dX3_mayFollow_27 : decode cX3_mayFollow 27 = .ok (.aload_n 0, 1) := by decide +kernel
theorem dX3_mayFollow_28 : decode cX3_mayFollow 28 = .ok (.getfield 28, 3) := by decide +kernel
theorem dX3_mayFollow_31 : decode cX3_mayFollow 31 = .ok (.if_icmp .ne 7, 3) := by decide +kernel
theorem dX3_mayFollow_34 : decode cX3_mayFollow 34 = .ok (.iconst 1, 1) := by decide +kernel
theorem dX3_mayFollow_35 : decode cX3_mayFollow 35 = .ok (.goto 4, 3) := by decide +kernel
theorem dX3_mayFollow_38 : decode cX3_mayFollow 38 = .ok (.iconst 0, 1) := by decide +kernel
theorem dX3_mayFollow_39 : decode cX3_mayFollow 39 = .ok (.iload_n 1, 1) := by decide +kernel
theorem dX3_mayFollow_40 : decode cX3_mayFollow 40 = .ok (.ifCond .ne 7, 3) := by decide +kernel
theorem dX3_mayFollow_43 : decode cX3_mayFollow 43 = .ok (.iconst 1, 1) := by decide +kernel
theorem dX3_mayFollow_44 : decode cX3_mayFollow 44 = .ok (.goto 4, 3) := by decide +kernel
theorem dX3_mayFollow_47 : decode cX3_mayFollow 47 = .ok (.iconst 0, 1) := by decide +kernel
theorem dX3_mayFollow_48 : decode cX3_mayFollow 48 = .ok (.if_icmp .eq 5, 3) := by decide +kernel
theorem dX3_mayFollow_51 : decode cX3_mayFollow 51 = .ok (.iconst 0, 1) := by decide +kernel
theorem dX3_mayFollow_52 : decode cX3_mayFollow 52 = .ok (.ireturn, 1) := by decide +kernel
theorem dX3_mayFollow_53 : decode cX3_mayFollow 53 = .ok (.aload_n 0, 1) := by decide +kernel
theorem dX3_mayFollow_54 : decode cX3_mayFollow 54 = .ok (.getfield 31, 3) := by decide +kernel
theorem dX3_mayFollow_57 : decode cX3_mayFollow 57 = .ok (.ifCond .lt 34, 3) := by decide +kernel
theorem dX3_mayFollow_60 : decode cX3_mayFollow 60 = .ok (.iload_n 2, 1) := by decide +kernel
theorem dX3_mayFollow_61 : decode cX3_mayFollow 61 = .ok (.aload_n 0, 1) := by decide +kernel
theorem dX3_mayFollow_62 : decode cX3_mayFollow 62 = .ok (.getfield 31, 3) := by decide +kernel
theorem dX3_mayFollow_65 : decode cX3_mayFollow 65 = .ok (.if_icmp .ne 7, 3) := by decide +kernel
theorem dX3_mayFollow_68 : decode cX3_mayFollow 68 = .ok (.iconst 1, 1) := by decide +kernel
theorem dX3_mayFollow_69 : decode cX3_mayFollow 69 = .ok (.goto 4, 3) := by decide +kernel
theorem dX3_mayFollow_72 : decode cX3_mayFollow 72 = .ok (.iconst 0, 1) := by decide +kernel
theorem dX3_mayFollow_73 : decode cX3_mayFollow 73 = .ok (.iload_n 1, 1) := by decide +kernel
theorem dX3_mayFollow_74 : decode cX3_mayFollow 74 = .ok (.iload_n 3, 1) := by decide +kernel
theorem dX3_mayFollow_75 : decode cX3_mayFollow 75 = .ok (.ior, 1) := by decide +kernel
theorem dX3_mayFollow_76 : decode cX3_mayFollow 76 = .ok (.aload_n 0, 1) := by decide +kernel
theorem dX3_mayFollow_77 : decode cX3_mayFollow 77 = .ok (.getfield 24, 3) := by decide +kernel
theorem dX3_mayFollow_80 : decode cX3_mayFollow 80 = .ok (.if_icmp .ne 7, 3) := by decide +kernel
theorem dX3_mayFollow_83 : decode cX3_mayFollow 83 = .ok (.iconst 1, 1) := by decide +kernel
theorem dX3_mayFollow_84 : decode cX3_mayFollow 84 = .ok (.goto 4, 3) := by decide +kernel
theorem dX3_mayFollow_87 : decode cX3_mayFollow 87 = .ok (.iconst 0, 1) := by decide +kernel
theorem dX3_mayFollow_88 : decode cX3_mayFollow 88 = .ok (.if_icmp .ne 7, 3) := by decide +kernel
theorem dX3_mayFollow_91 : decode cX3_mayFollow 91 = .ok (.iconst 1, 1) := by decide +kernel
theorem dX3_mayFollow_92 : decode cX3_mayFollow 92 = .ok (.goto 4, 3) := by decide +kernel
theorem dX3_mayFollow_95 : decode cX3_mayFollow 95 = .ok (.iconst 0, 1) := by decide +kernel
theorem dX3_mayFollow_96 : decode cX3_mayFollow 96 = .ok (.ireturn, 1) := by decide +kernel
set_option maxRecDepth 20000 in
theorem ggX3_toll_J6_bitCount_0f7a4 : GoodIn wsX3_toll wsJ6_bitCount_0f7a4 := goodIn_r _ [7, 8, 9, 10] (by decide +kernel) (by decide +kernel)
set_option maxRecDepth 20000 in
theorem gX3_toll_J6_bitCount_0f7a4 : GoodIn wsX3_toll (va_wsS RX3 59 yJ6_bitCount_0f7a4 wsJ6_bitCount_0f7a4) := goodIn_app (goodIn_of _ (by decide +kernel)) ggX3_toll_J6_bitCount_0f7a4
theorem dX3_toll_0 : decode cX3_toll 0 = .ok (.aload_n 0, 1) := by decide +kernel
theorem dX3_toll_1 : decode cX3_toll 1 = .ok (.getfield 15, 3) := by decide +kernel
theorem dX3_toll_4 : decode cX3_toll 4 = .ok (.iload_n 1, 1) := by decide +kernel
theorem dX3_toll_5 : decode cX3_toll 5 = .ok (.iaload, 1) := by decide +kernel
theorem dX3_toll_6 : decode cX3_toll 6 = .ok (.aload_n 0, 1) := by decide +kernel
theorem dX3_toll_7 : decode cX3_toll 7 = .ok (.getfield 15, 3) := by decide +kernel
theorem dX3_toll_10 : decode cX3_toll 10 = .ok (.aload_n 0, 1) := by decide +kernel
theorem dX3_toll_11 : decode cX3_toll 11 = .ok (.getfield 24, 3) := by decide +kernel
theorem dX3_toll_14 : decode cX3_toll 14 = .ok (.iload_n 1, 1) := by decide +kernel
theorem dX3_toll_15 : decode cX3_toll 15 = .ok (.iconst (-1), 1) := by decide +kernel
theorem dX3_toll_16 : decode cX3_toll 16 = .ok (.ixor, 1) := by decide +kernel
theorem dX3_toll_17 : decode cX3_toll 17 = .ok (.iand, 1) := by decide +kernel
theorem dX3_toll_18 : decode cX3_toll 18 = .ok (.iconst 1, 1) := by decide +kernel
theorem dX3_toll_19 : decode cX3_toll 19 = .ok (.iload_n 2, 1) := by decide +kernel
theorem dX3_toll_20 : decode cX3_toll 20 = .ok (.ishl, 1) := by decide +kernel
theorem dX3_toll_21 : decode cX3_toll 21 = .ok (.iconst (-1), 1) := by decide +kernel
theorem dX3_toll_22 : decode cX3_toll 22 = .ok (.ixor, 1) := by decide +kernel
theorem dX3_toll_23 : decode cX3_toll 23 = .ok (.iand, 1) := by decide +kernel
theorem dX3_toll_24 : decode cX3_toll 24 = .ok (.iaload, 1) := by decide +kernel
theorem dX3_toll_25 : decode cX3_toll 25 = .ok (.iand, 1) := by decide +kernel
theorem dX3_toll_26 : decode cX3_toll 26 = .ok (.aload_n 0, 1) := by decide +kernel
theorem dX3_toll_27 : decode cX3_toll 27 = .ok (.getfield 9, 3) := by decide +kernel
theorem dX3_toll_30 : decode cX3_toll 30 = .ok (.iload_n 2, 1) := by decide +kernel
theorem dX3_toll_31 : decode cX3_toll 31 = .ok (.iaload, 1) := by decide +kernel
theorem dX3_toll_32 : decode cX3_toll 32 = .ok (.iconst (-1), 1) := by decide +kernel
theorem dX3_toll_33 : decode cX3_toll 33 = .ok (.ixor, 1) := by decide +kernel
theorem dX3_toll_34 : decode cX3_toll 34 = .ok (.iand, 1) := by decide +kernel
theorem dX3_toll_35 : decode cX3_toll 35 = .ok (.invokestatic 59, 3) := by decide +kernel
theorem dX3_toll_38 : decode cX3_toll 38 = .ok (.ireturn, 1) := by decide +kernel
set_option maxRecDepth 20000 in
theorem ggX3_isBest_X3_mayFollow : GoodIn wsX3_isBest wsX3_mayFollow := goodIn_r _ [6, 7, 8, 9, 23, 24, 25, 26, 27, 28, 29] (by decide +kernel) (by decide +kernel)
set_option maxRecDepth 20000 in
theorem gX3_isBest_X3_mayFollow : GoodIn wsX3_isBest (wsV RX3 51 RX3 yX3_mayFollow wsX3_mayFollow) := goodIn_app (goodIn_of _ (by decide +kernel)) ggX3_isBest_X3_mayFollow
set_option maxRecDepth 20000 in
theorem ggX3_isBest_X3_toll : GoodIn wsX3_isBest wsX3_toll := goodIn_r _ [13, 14, 7, 15, 16, 17, 18, 19, 20, 21, 22, 23, 24, 25, 26, 27, 28, 29] (by decide +kernel) (by decide +kernel)
set_option maxRecDepth 20000 in
theorem gX3_isBest_X3_toll : GoodIn wsX3_isBest (wsV RX3 55 RX3 yX3_toll wsX3_toll) := goodIn_app (goodIn_of _ (by decide +kernel)) ggX3_isBest_X3_toll
theorem dX3_isBest_0 : decode cX3_isBest 0 = .ok (.aload_n 0, 1) := by decide +kernel
theorem dX3_isBest_1 : decode cX3_isBest 1 = .ok (.iload_n 1, 1) := by decide +kernel
theorem dX3_isBest_2 : decode cX3_isBest 2 = .ok (.iload_n 2, 1) := by decide +kernel
theorem dX3_isBest_3 : decode cX3_isBest 3 = .ok (.invokevirtual 51, 3) := by decide +kernel
theorem dX3_isBest_6 : decode cX3_isBest 6 = .ok (.ifCond .eq 33, 3) := by decide +kernel
theorem dX3_isBest_9 : decode cX3_isBest 9 = .ok (.aload_n 0, 1) := by decide +kernel
theorem dX3_isBest_10 : decode cX3_isBest 10 = .ok (.iload_n 1, 1) := by decide +kernel
theorem dX3_isBest_11 : decode cX3_isBest 11 = .ok (.iload_n 2, 1) := by decide +kernel
theorem dX3_isBest_12 : decode cX3_isBest 12 = .ok (.invokevirtual 55, 3) := by decide +kernel
theorem dX3_isBest_15 : decode cX3_isBest 15 = .ok (.aload_n 0, 1) := by decide +kernel
theorem dX3_isBest_16 : decode cX3_isBest 16 = .ok (.getfield 18, 3) := by decide +kernel
theorem dX3_isBest_19 : decode cX3_isBest 19 = .ok (.iload_n 1, 1) := by decide +kernel
theorem dX3_isBest_20 : decode cX3_isBest 20 = .ok (.iconst 1, 1) := by decide +kernel
theorem dX3_isBest_21 : decode cX3_isBest 21 = .ok (.iload_n 2, 1) := by decide +kernel
theorem dX3_isBest_22 : decode cX3_isBest 22 = .ok (.ishl, 1) := by decide +kernel
theorem dX3_isBest_23 : decode cX3_isBest 23 = .ok (.ior, 1) := by decide +kernel
theorem dX3_isBest_24 : decode cX3_isBest 24 = .ok (.iaload, 1) := by decide +kernel
theorem dX3_isBest_25 : decode cX3_isBest 25 = .ok (.iadd, 1) := by decide +kernel
theorem dX3_isBest_26 : decode cX3_isBest 26 = .ok (.aload_n 0, 1) := by decide +kernel
theorem dX3_isBest_27 : decode cX3_isBest 27 = .ok (.getfield 18, 3) := by decide +kernel
theorem dX3_isBest_30 : decode cX3_isBest 30 = .ok (.iload_n 1, 1) := by decide +kernel
theorem dX3_isBest_31 : decode cX3_isBest 31 = .ok (.iaload, 1) := by decide +kernel
theorem dX3_isBest_32 : decode cX3_isBest 32 = .ok (.if_icmp .ne 7, 3) := by decide +kernel
theorem dX3_isBest_35 : decode cX3_isBest 35 = .ok (.iconst 1, 1) := by decide +kernel
theorem dX3_isBest_36 : decode cX3_isBest 36 = .ok (.goto 4, 3) := by decide +kernel
theorem dX3_isBest_39 : decode cX3_isBest 39 = .ok (.iconst 0, 1) := by decide +kernel
theorem dX3_isBest_40 : decode cX3_isBest 40 = .ok (.ireturn, 1) := by decide +kernel
theorem dX3_least_0 : decode cX3_least 0 = .ok (.aload_n 0, 1) := by decide +kernel
theorem dX3_least_1 : decode cX3_least 1 = .ok (.getfield 18, 3) := by decide +kernel
theorem dX3_least_4 : decode cX3_least 4 = .ok (.iconst 0, 1) := by decide +kernel
theorem dX3_least_5 : decode cX3_least 5 = .ok (.iaload, 1) := by decide +kernel
theorem dX3_least_6 : decode cX3_least 6 = .ok (.ireturn, 1) := by decide +kernel
theorem dX3_smoothOrders_0 : decode cX3_smoothOrders 0 = .ok (.aload_n 0, 1) := by decide +kernel
theorem dX3_smoothOrders_1 : decode cX3_smoothOrders 1 = .ok (.getfield 18, 3) := by decide +kernel
theorem dX3_smoothOrders_4 : decode cX3_smoothOrders 4 = .ok (.iconst 0, 1) := by decide +kernel
theorem dX3_smoothOrders_5 : decode cX3_smoothOrders 5 = .ok (.iaload, 1) := by decide +kernel
theorem dX3_smoothOrders_6 : decode cX3_smoothOrders 6 = .ok (.ifCond .ne 12, 3) := by decide +kernel
theorem dX3_smoothOrders_9 : decode cX3_smoothOrders 9 = .ok (.aload_n 0, 1) := by decide +kernel
theorem dX3_smoothOrders_10 : decode cX3_smoothOrders 10 = .ok (.getfield 21, 3) := by decide +kernel
theorem dX3_smoothOrders_13 : decode cX3_smoothOrders 13 = .ok (.iconst 0, 1) := by decide +kernel
theorem dX3_smoothOrders_14 : decode cX3_smoothOrders 14 = .ok (.iaload, 1) := by decide +kernel
theorem dX3_smoothOrders_15 : decode cX3_smoothOrders 15 = .ok (.goto 4, 3) := by decide +kernel
theorem dX3_smoothOrders_18 : decode cX3_smoothOrders 18 = .ok (.iconst 0, 1) := by decide +kernel
theorem dX3_smoothOrders_19 : decode cX3_smoothOrders 19 = .ok (.ireturn, 1) := by decide +kernel
set_option maxRecDepth 20000 in
theorem ggX3_pick_J6_bitCount_0f7a4 : GoodIn wsX3_pick wsJ6_bitCount_0f7a4 := goodIn_r _ [6, 7, 8, 9] (by decide +kernel) (by decide +kernel)
set_option maxRecDepth 20000 in
theorem gX3_pick_J6_bitCount_0f7a4 : GoodIn wsX3_pick (va_wsS RX3 59 yJ6_bitCount_0f7a4 wsJ6_bitCount_0f7a4) := goodIn_app (goodIn_of _ (by decide +kernel)) ggX3_pick_J6_bitCount_0f7a4
set_option maxRecDepth 20000 in
theorem ggX3_pick_X3_isBest : GoodIn wsX3_pick wsX3_isBest := goodIn_r _ [14, 15, 16, 17, 18, 13, 19, 1, 20, 21, 22, 23, 24, 25, 26, 27, 3, 4, 5, 6, 7, 8, 9, 28, 29, 30, 31, 32, 33, 34] (by decide +kernel) (by decide +kernel)
set_option maxRecDepth 20000 in
theorem gX3_pick_X3_isBest : GoodIn wsX3_pick (wsV RX3 62 RX3 yX3_isBest wsX3_isBest) := goodIn_app (goodIn_of _ (by decide +kernel)) ggX3_pick_X3_isBest
theorem dX3_pick_0 : decode cX3_pick 0 = .ok (.iload_n 1, 1) := by decide +kernel
theorem dX3_pick_1 : decode cX3_pick 1 = .ok (.istore_n 2, 1) := by decide +kernel
theorem dX3_pick_2 : decode cX3_pick 2 = .ok (.iconst 0, 1) := by decide +kernel
theorem dX3_pick_3 : decode cX3_pick 3 = .ok (.istore_n 3, 1) := by decide +kernel
theorem dX3_pick_4 : decode cX3_pick 4 = .ok (.iconst 0, 1) := by decide +kernel
theorem dX3_pick_5 : decode cX3_pick 5 = .ok (.istore 4, 2) := by decide +kernel
theorem dX3_pick_7 : decode cX3_pick 7 = .ok (.aload_n 0, 1) := by decide +kernel
theorem dX3_pick_8 : decode cX3_pick 8 = .ok (.getfield 24, 3) := by decide +kernel
theorem dX3_pick_11 : decode cX3_pick 11 = .ok (.invokestatic 59, 3) := by decide +kernel
theorem dX3_pick_14 : decode cX3_pick 14 = .ok (.istore 5, 2) := by decide +kernel
theorem dX3_pick_16 : decode cX3_pick 16 = .ok (.iload 5, 2) := by decide +kernel
theorem dX3_pick_18 : decode cX3_pick 18 = .ok (.ifCond .le 82, 3) := by decide +kernel
theorem dX3_pick_21 : decode cX3_pick 21 = .ok (.iconst 0, 1) := by decide +kernel
theorem dX3_pick_22 : decode cX3_pick 22 = .ok (.istore 6, 2) := by decide +kernel
theorem dX3_pick_24 : decode cX3_pick 24 = .ok (.iload 6, 2) := by decide +kernel
theorem dX3_pick_26 : decode cX3_pick 26 = .ok (.bipush 7, 2) := by decide +kernel
theorem dX3_pick_28 : decode cX3_pick 28 = .ok (.if_icmp .ge 66, 3) := by decide +kernel
theorem dX3_pick_31 : decode cX3_pick 31 = .ok (.aload_n 0, 1) := by decide +kernel
theorem dX3_pick_32 : decode cX3_pick 32 = .ok (.iload_n 3, 1) := by decide +kernel
theorem dX3_pick_33 : decode cX3_pick 33 = .ok (.iload 6, 2) := by decide +kernel
theorem dX3_pick_35 : decode cX3_pick 35 = .ok (.invokevirtual 62, 3) := by decide +kernel
theorem dX3_pick_38 : decode cX3_pick 38 = .ok (.ifCond .eq 50, 3) := by decide +kernel
theorem dX3_pick_41 : decode cX3_pick 41 = .ok (.iload_n 3, 1) := by decide +kernel
theorem dX3_pick_42 : decode cX3_pick 42 = .ok (.iconst 1, 1) := by decide +kernel
theorem dX3_pick_43 : decode cX3_pick 43 = .ok (.iload 6, 2) := by decide +kernel
theorem dX3_pick_45 : decode cX3_pick 45 = .ok (.ishl, 1) := by decide +kernel
theorem dX3_pick_46 : decode cX3_pick 46 = .ok (.ior, 1) := by decide +kernel
theorem dX3_pick_47 : decode cX3_pick 47 = .ok (.istore 7, 2) := by decide +kernel
theorem dX3_pick_49 : decode cX3_pick 49 = .ok (.iload_n 2, 1) := by decide +kernel
theorem dX3_pick_50 : decode cX3_pick 50 = .ok (.aload_n 0, 1) := by decide +kernel
theorem dX3_pick_51 : decode cX3_pick 51 = .ok (.getfield 21, 3) := by decide +kernel
theorem dX3_pick_54 : decode cX3_pick 54 = .ok (.iload 7, 2) := by decide +kernel
theorem dX3_pick_56 : decode cX3_pick 56 = .ok (.iaload, 1) := by decide +kernel
theorem dX3_pick_57 : decode cX3_pick 57 = .ok (.if_icmp .ge 21, 3) := by decide +kernel
theorem dX3_pick_60 : decode cX3_pick 60 = .ok (.iload 7, 2) := by decide +kernel
theorem dX3_pick_62 : decode cX3_pick 62 = .ok (.istore_n 3, 1) := by decide +kernel
theorem dX3_pick_63 : decode cX3_pick 63 = .ok (.iload 4, 2) := by decide +kernel
theorem dX3_pick_65 : decode cX3_pick 65 = .ok (.bipush 10, 2) := by decide +kernel
theorem dX3_pick_67 : decode cX3_pick 67 = .ok (.imul, 1) := by decide +kernel
theorem dX3_pick_68 : decode cX3_pick 68 = .ok (.iload 6, 2) := by decide +kernel
theorem dX3_pick_70 : decode cX3_pick 70 = .ok (.iadd, 1) := by decide +kernel
theorem dX3_pick_71 : decode cX3_pick 71 = .ok (.iconst 1, 1) := by decide +kernel
theorem dX3_pick_72 : decode cX3_pick 72 = .ok (.iadd, 1) := by decide +kernel
theorem dX3_pick_73 : decode cX3_pick 73 = .ok (.istore 4, 2) := by decide +kernel
theorem dX3_pick_75 : decode cX3_pick 75 = .ok (.goto 19, 3) := by decide +kernel
theorem dX3_pick_78 : decode cX3_pick 78 = .ok (.iload_n 2, 1) := by decide +kernel
theorem dX3_pick_79 : decode cX3_pick 79 = .ok (.aload_n 0, 1) := by decide +kernel
theorem dX3_pick_80 : decode cX3_pick 80 = .ok (.getfield 21, 3) := by decide +kernel
theorem dX3_pick_83 : decode cX3_pick 83 = .ok (.iload 7, 2) := by decide +kernel
theorem dX3_pick_85 : decode cX3_pick 85 = .ok (.iaload, 1) := by decide +kernel
theorem dX3_pick_86 : decode cX3_pick 86 = .ok (.isub, 1) := by decide +kernel
theorem dX3_pick_87 : decode cX3_pick 87 = .ok (.istore_n 2, 1) := by decide +kernel
theorem dX3_pick_88 : decode cX3_pick 88 = .ok (.iinc 6 1, 3) := by decide +kernel
theorem dX3_pick_91 : decode cX3_pick 91 = .ok (.goto (-67), 3) := by decide +kernel
theorem dX3_pick_94 : decode cX3_pick 94 = .ok (.iinc 5 (-1), 3) := by decide +kernel
theorem dX3_pick_97 : decode cX3_pick 97 = .ok (.goto (-81), 3) := by decide +kernel
theorem dX3_pick_100 : decode cX3_pick 100 = .ok (.iload 4, 2) := by decide +kernel
theorem dX3_pick_102 : decode cX3_pick 102 = .ok (.ireturn, 1) := by decide +kernel
set_option maxRecDepth 20000 in
theorem ggX3_ahead_X3_isBest : GoodIn wsX3_ahead wsX3_isBest := goodIn_r _ [7, 1, 8, 9, 10, 6, 11, 12, 13, 14, 15, 16, 17, 18, 19, 20, 21, 22, 23, 24, 25, 26, 27, 28, 29, 30, 31, 32, 33, 34] (by decide +kernel) (by decide +kernel)
set_option maxRecDepth 20000 in
theorem gX3_ahead_X3_isBest : GoodIn wsX3_ahead (wsV RX3 62 RX3 yX3_isBest wsX3_isBest) := goodIn_app (goodIn_of _ (by decide +kernel)) ggX3_ahead_X3_isBest
theorem dX3_ahead_0 : decode cX3_ahead 0 = .ok (.iconst 0, 1) := by decide +kernel
theorem dX3_ahead_1 : decode cX3_ahead 1 = .ok (.istore_n 3, 1) := by decide +kernel
theorem dX3_ahead_2 : decode cX3_ahead 2 = .ok (.iconst 0, 1) := by decide +kernel
theorem dX3_ahead_3 : decode cX3_ahead 3 = .ok (.istore 4, 2) := by decide +kernel
theorem dX3_ahead_5 : decode cX3_ahead 5 = .ok (.iconst 0, 1) := by decide +kernel
theorem dX3_ahead_6 : decode cX3_ahead 6 = .ok (.istore 5, 2) := by decide +kernel
theorem dX3_ahead_8 : decode cX3_ahead 8 = .ok (.iload 5, 2) := by decide +kernel
theorem dX3_ahead_10 : decode cX3_ahead 10 = .ok (.iload_n 2, 1) := by decide +kernel
theorem dX3_ahead_11 : decode cX3_ahead 11 = .ok (.if_icmp .ge 96, 3) := by decide +kernel
theorem dX3_ahead_14 : decode cX3_ahead 14 = .ok (.iload 5, 2) := by decide +kernel
theorem dX3_ahead_16 : decode cX3_ahead 16 = .ok (.aload_n 1, 1) := by decide +kernel
theorem dX3_ahead_17 : decode cX3_ahead 17 = .ok (.arraylength, 1) := by decide +kernel
theorem dX3_ahead_18 : decode cX3_ahead 18 = .ok (.if_icmp .ge 89, 3) := by decide +kernel
theorem dX3_ahead_21 : decode cX3_ahead 21 = .ok (.aload_n 0, 1) := by decide +kernel
theorem dX3_ahead_22 : decode cX3_ahead 22 = .ok (.getfield 18, 3) := by decide +kernel
theorem dX3_ahead_25 : decode cX3_ahead 25 = .ok (.iconst 0, 1) := by decide +kernel
theorem dX3_ahead_26 : decode cX3_ahead 26 = .ok (.iaload, 1) := by decide +kernel
theorem dX3_ahead_27 : decode cX3_ahead 27 = .ok (.ifCond .ne 80, 3) := by decide +kernel
theorem dX3_ahead_30 : decode cX3_ahead 30 = .ok (.iconst 0, 1) := by decide +kernel
theorem dX3_ahead_31 : decode cX3_ahead 31 = .ok (.istore 6, 2) := by decide +kernel
theorem dX3_ahead_33 : decode cX3_ahead 33 = .ok (.iload 6, 2) := by decide +kernel
theorem dX3_ahead_35 : decode cX3_ahead 35 = .ok (.aload_n 1, 1) := by decide +kernel
theorem dX3_ahead_36 : decode cX3_ahead 36 = .ok (.iload 5, 2) := by decide +kernel
theorem dX3_ahead_38 : decode cX3_ahead 38 = .ok (.iaload, 1) := by decide +kernel
theorem dX3_ahead_39 : decode cX3_ahead 39 = .ok (.if_icmp .ge 35, 3) := by decide +kernel
theorem dX3_ahead_42 : decode cX3_ahead 42 = .ok (.aload_n 0, 1) := by decide +kernel
theorem dX3_ahead_43 : decode cX3_ahead 43 = .ok (.iload 4, 2) := by decide +kernel
theorem dX3_ahead_45 : decode cX3_ahead 45 = .ok (.iload 6, 2) := by decide +kernel
theorem dX3_ahead_47 : decode cX3_ahead 47 = .ok (.invokevirtual 62, 3) := by decide +kernel
theorem dX3_ahead_50 : decode cX3_ahead 50 = .ok (.ifCond .eq 18, 3) := by decide +kernel
theorem dX3_ahead_53 : decode cX3_ahead 53 = .ok (.iload_n 3, 1) := by decide +kernel
theorem dX3_ahead_54 : decode cX3_ahead 54 = .ok (.aload_n 0, 1) := by decide +kernel
theorem dX3_ahead_55 : decode cX3_ahead 55 = .ok (.getfield 21, 3) := by decide +kernel
theorem dX3_ahead_58 : decode cX3_ahead 58 = .ok (.iload 4, 2) := by decide +kernel
theorem dX3_ahead_60 : decode cX3_ahead 60 = .ok (.iconst 1, 1) := by decide +kernel
theorem dX3_ahead_61 : decode cX3_ahead 61 = .ok (.iload 6, 2) := by decide +kernel
theorem dX3_ahead_63 : decode cX3_ahead 63 = .ok (.ishl, 1) := by decide +kernel
theorem dX3_ahead_64 : decode cX3_ahead 64 = .ok (.ior, 1) := by decide +kernel
theorem dX3_ahead_65 : decode cX3_ahead 65 = .ok (.iaload, 1) := by decide +kernel
theorem dX3_ahead_66 : decode cX3_ahead 66 = .ok (.iadd, 1) := by decide +kernel
theorem dX3_ahead_67 : decode cX3_ahead 67 = .ok (.istore_n 3, 1) := by decide +kernel
theorem dX3_ahead_68 : decode cX3_ahead 68 = .ok (.iinc 6 1, 3) := by decide +kernel
theorem dX3_ahead_71 : decode cX3_ahead 71 = .ok (.goto (-38), 3) := by decide +kernel
theorem dX3_ahead_74 : decode cX3_ahead 74 = .ok (.aload_n 0, 1) := by decide +kernel
theorem dX3_ahead_75 : decode cX3_ahead 75 = .ok (.iload 4, 2) := by decide +kernel
theorem dX3_ahead_77 : decode cX3_ahead 77 = .ok (.aload_n 1, 1) := by decide +kernel
theorem dX3_ahead_78 : decode cX3_ahead 78 = .ok (.iload 5, 2) := by decide +kernel
theorem dX3_ahead_80 : decode cX3_ahead 80 = .ok (.iaload, 1) := by decide +kernel
theorem dX3_ahead_81 : decode cX3_ahead 81 = .ok (.invokevirtual 62, 3) := by decide +kernel
theorem dX3_ahead_84 : decode cX3_ahead 84 = .ok (.ifCond .ne 6, 3) := by decide +kernel
theorem dX3_ahead_87 : decode cX3_ahead 87 = .ok (.goto 20, 3) := by decide +kernel
theorem dX3_ahead_90 : decode cX3_ahead 90 = .ok (.iload 4, 2) := by decide +kernel
theorem dX3_ahead_92 : decode cX3_ahead 92 = .ok (.iconst 1, 1) := by decide +kernel
theorem dX3_ahead_93 : decode cX3_ahead 93 = .ok (.aload_n 1, 1) := by decide +kernel
theorem dX3_ahead_94 : decode cX3_ahead 94 = .ok (.iload 5, 2) := by decide +kernel
theorem dX3_ahead_96 : decode cX3_ahead 96 = .ok (.iaload, 1) := by decide +kernel
theorem dX3_ahead_97 : decode cX3_ahead 97 = .ok (.ishl, 1) := by decide +kernel
theorem dX3_ahead_98 : decode cX3_ahead 98 = .ok (.ior, 1) := by decide +kernel
theorem dX3_ahead_99 : decode cX3_ahead 99 = .ok (.istore 4, 2) := by decide +kernel
theorem dX3_ahead_101 : decode cX3_ahead 101 = .ok (.iinc 5 1, 3) := by decide +kernel
theorem dX3_ahead_104 : decode cX3_ahead 104 = .ok (.goto (-96), 3) := by decide +kernel
theorem dX3_ahead_107 : decode cX3_ahead 107 = .ok (.iload_n 3, 1) := by decide +kernel
theorem dX3_ahead_108 : decode cX3_ahead 108 = .ok (.ireturn, 1) := by decide +kernel
theorem dX4_init_0 : decode cX4_init 0 = .ok (.aload_n 0, 1) := by decide +kernel
theorem dX4_init_1 : decode cX4_init 1 = .ok (.invokespecial 3, 3) := by decide +kernel
theorem dX4_init_4 : decode cX4_init 4 = .ok (.aload_n 0, 1) := by decide +kernel
theorem dX4_init_5 : decode cX4_init 5 = .ok (.sipush 420, 3) := by decide +kernel
theorem dX4_init_8 : decode cX4_init 8 = .ok (.newarray .int, 2) := by decide +kernel
theorem dX4_init_10 : decode cX4_init 10 = .ok (.putfield 11, 3) := by decide +kernel
theorem dX4_init_13 : decode cX4_init 13 = .ok (.return_, 1) := by decide +kernel
set_option maxRecDepth 20000 in
theorem ggX4_write_X4_append : GoodIn wsX4_write wsX4_append := goodIn_r _ [8, 1, 9, 45, 46] (by decide +kernel) (by decide +kernel)
set_option maxRecDepth 20000 in
theorem gX4_write_X4_append : GoodIn wsX4_write (wsV RX4 24 RX4 yX4_append wsX4_append) := goodIn_app (goodIn_of _ (by decide +kernel)) ggX4_write_X4_append
set_option maxRecDepth 20000 in
theorem ggX4_write_X4_writeAge : GoodIn wsX4_write wsX4_writeAge := goodIn_r _ [13, 4, 5, 6, 7, 8, 1, 9, 45, 46] (by decide +kernel) (by decide +kernel)
set_option maxRecDepth 20000 in
theorem gX4_write_X4_writeAge : GoodIn wsX4_write (wsV RX4 31 RX4 yX4_writeAge wsX4_writeAge) := goodIn_app (goodIn_of _ (by decide +kernel)) ggX4_write_X4_writeAge
set_option maxRecDepth 20000 in
theorem ggX4_write_X4_writeNames : GoodIn wsX4_write wsX4_writeNames := goodIn_r _ [17, 18, 19, 20, 21, 22, 23, 24, 25, 26, 27, 28, 29, 30, 31, 32, 33, 34, 35, 4, 5, 6, 7, 8, 1, 9, 36, 37, 38, 39, 40, 41, 42, 43, 44, 47, 48, 49, 50, 51, 45, 46] (by decide +kernel) (by decide +kernel)
set_option maxRecDepth 20000 in
theorem gX4_write_X4_writeNames : GoodIn wsX4_write (wsV RX4 34 RX4 yX4_writeNames wsX4_writeNames) := goodIn_app (goodIn_of _ (by decide +kernel)) ggX4_write_X4_writeNames
theorem dX4_write_0 : decode cX4_write 0 = .ok (.aload_n 0, 1) := by decide +kernel
theorem dX4_write_1 : decode cX4_write 1 = .ok (.iconst 0, 1) := by decide +kernel
theorem dX4_write_2 : decode cX4_write 2 = .ok (.putfield 15, 3) := by decide +kernel
theorem dX4_write_5 : decode cX4_write 5 = .ok (.iconst 0, 1) := by decide +kernel
theorem dX4_write_6 : decode cX4_write 6 = .ok (.istore_n 2, 1) := by decide +kernel
theorem dX4_write_7 : decode cX4_write 7 = .ok (.iload_n 2, 1) := by decide +kernel
theorem dX4_write_8 : decode cX4_write 8 = .ok (.aload_n 1, 1) := by decide +kernel
theorem dX4_write_9 : decode cX4_write 9 = .ok (.getfield 19, 3) := by decide +kernel
theorem dX4_write_12 : decode cX4_write 12 = .ok (.if_icmp .ge 41, 3) := by decide +kernel
theorem dX4_write_15 : decode cX4_write 15 = .ok (.iload_n 2, 1) := by decide +kernel
theorem dX4_write_16 : decode cX4_write 16 = .ok (.ifCond .le 9, 3) := by decide +kernel
theorem dX4_write_19 : decode cX4_write 19 = .ok (.aload_n 0, 1) := by decide +kernel
theorem dX4_write_20 : decode cX4_write 20 = .ok (.bipush 59, 2) := by decide +kernel
theorem dX4_write_22 : decode cX4_write 22 = .ok (.invokevirtual 24, 3) := by decide +kernel
theorem dX4_write_25 : decode cX4_write 25 = .ok (.aload_n 0, 1) := by decide +kernel
theorem dX4_write_26 : decode cX4_write 26 = .ok (.aload_n 1, 1) := by decide +kernel
theorem dX4_write_27 : decode cX4_write 27 = .ok (.getfield 28, 3) := by decide +kernel
theorem dX4_write_30 : decode cX4_write 30 = .ok (.iload_n 2, 1) := by decide +kernel
theorem dX4_write_31 : decode cX4_write 31 = .ok (.iaload, 1) := by decide +kernel
theorem dX4_write_32 : decode cX4_write 32 = .ok (.invokevirtual 31, 3) := by decide +kernel
theorem dX4_write_35 : decode cX4_write 35 = .ok (.aload_n 0, 1) := by decide +kernel
theorem dX4_write_36 : decode cX4_write 36 = .ok (.bipush 58, 2) := by decide +kernel
theorem dX4_write_38 : decode cX4_write 38 = .ok (.invokevirtual 24, 3) := by decide +kernel
theorem dX4_write_41 : decode cX4_write 41 = .ok (.aload_n 0, 1) := by decide +kernel
theorem dX4_write_42 : decode cX4_write 42 = .ok (.aload_n 1, 1) := by decide +kernel
theorem dX4_write_43 : decode cX4_write 43 = .ok (.iload_n 2, 1) := by decide +kernel
theorem dX4_write_44 : decode cX4_write 44 = .ok (.invokevirtual 34, 3) := by decide +kernel
theorem dX4_write_47 : decode cX4_write 47 = .ok (.iinc 2 1, 3) := by decide +kernel
theorem dX4_write_50 : decode cX4_write 50 = .ok (.goto (-43), 3) := by decide +kernel
theorem dX4_write_53 : decode cX4_write 53 = .ok (.return_, 1) := by decide +kernel
set_option maxRecDepth 20000 in
theorem ggX4_writeAge_X4_append : GoodIn wsX4_writeAge wsX4_append := goodIn_r _ [5, 6, 7, 8, 9] (by decide +kernel) (by decide +kernel)
set_option maxRecDepth 20000 in
theorem gX4_writeAge_X4_append : GoodIn wsX4_writeAge (wsV RX4 24 RX4 yX4_append wsX4_append) := goodIn_app (goodIn_of _ (by decide +kernel)) ggX4_writeAge_X4_append
theorem dX4_writeAge_0 : decode cX4_writeAge 0 = .ok (.iload_n 1, 1) := by decide +kernel
theorem dX4_writeAge_1 : decode cX4_writeAge 1 = .ok (.bipush 99, 2) := by decide +kernel
theorem dX4_writeAge_3 : decode cX4_writeAge 3 = .ok (.if_icmp .le 14, 3) := by decide +kernel
theorem dX4_writeAge_6 : decode cX4_writeAge 6 = .ok (.aload_n 0, 1) := by decide +kernel
theorem dX4_writeAge_7 : decode cX4_writeAge 7 = .ok (.bipush 48, 2) := by decide +kernel
theorem dX4_writeAge_9 : decode cX4_writeAge 9 = .ok (.iload_n 1, 1) := by decide +kernel
theorem dX4_writeAge_10 : decode cX4_writeAge 10 = .ok (.bipush 100, 2) := by decide +kernel
theorem dX4_writeAge_12 : decode cX4_writeAge 12 = .ok (.idiv, 1) := by decide +kernel
theorem dX4_writeAge_13 : decode cX4_writeAge 13 = .ok (.iadd, 1) := by decide +kernel
theorem dX4_writeAge_14 : decode cX4_writeAge 14 = .ok (.invokevirtual 24, 3) := by decide +kernel
theorem dX4_writeAge_17 : decode cX4_writeAge 17 = .ok (.iload_n 1, 1) := by decide +kernel
theorem dX4_writeAge_18 : decode cX4_writeAge 18 = .ok (.bipush 9, 2) := by decide +kernel
theorem dX4_writeAge_20 : decode cX4_writeAge 20 = .ok (.if_icmp .le 17, 3) := by decide +kernel
theorem dX4_writeAge_23 : decode cX4_writeAge 23 = .ok (.aload_n 0, 1) := by decide +kernel
theorem dX4_writeAge_24 : decode cX4_writeAge 24 = .ok (.bipush 48, 2) := by decide +kernel
theorem dX4_writeAge_26 : decode cX4_writeAge 26 = .ok (.iload_n 1, 1) := by decide +kernel
theorem dX4_writeAge_27 : decode cX4_writeAge 27 = .ok (.bipush 10, 2) := by decide +kernel
theorem dX4_writeAge_29 : decode cX4_writeAge 29 = .ok (.idiv, 1) := by decide +kernel
theorem dX4_writeAge_30 : decode cX4_writeAge 30 = .ok (.bipush 10, 2) := by decide +kernel
theorem dX4_writeAge_32 : decode cX4_writeAge 32 = .ok (.irem, 1) := by decide +kernel
theorem dX4_writeAge_33 : decode cX4_writeAge 33 = .ok (.iadd, 1) := by decide +kernel
theorem dX4_writeAge_34 : decode cX4_writeAge 34 = .ok (.invokevirtual 24, 3) := by decide +kernel
theorem dX4_writeAge_37 : decode cX4_writeAge 37 = .ok (.aload_n 0, 1) := by decide +kernel
theorem dX4_writeAge_38 : decode cX4_writeAge 38 = .ok (.bipush 48, 2) := by decide +kernel
theorem dX4_writeAge_40 : decode cX4_writeAge 40 = .ok (.iload_n 1, 1) := by decide +kernel
theorem dX4_writeAge_41 : decode cX4_writeAge 41 = .ok (.bipush 10, 2) := by decide +kernel
theorem dX4_writeAge_43 : decode cX4_writeAge 43 = .ok (.irem, 1) := by decide +kernel
theorem dX4_writeAge_44 : decode cX4_writeAge 44 = .ok (.iadd, 1) := by decide +kernel
theorem dX4_writeAge_45 : decode cX4_writeAge 45 = .ok (.invokevirtual 24, 3) := by decide +kernel
theorem dX4_writeAge_48 : decode cX4_writeAge 48 = .ok (.return_, 1) := by decide +kernel
set_option maxRecDepth 20000 in
theorem ggX4_writeNames_X5_typeBehind : GoodIn wsX4_writeNames wsX5_typeBehind := goodIn_r _ [6, 7, 8, 9, 10, 11, 5, 12, 13, 14, 15, 16, 17, 18, 35, 36, 37, 38, 39] (by decide +kernel) (by decide +kernel)
set_option maxRecDepth 20000 in
theorem gX4_writeNames_X5_typeBehind : GoodIn wsX4_writeNames (wsV RX4 38 RX5 yX5_typeBehind wsX5_typeBehind) := goodIn_app (goodIn_of _ (by decide +kernel)) ggX4_writeNames_X5_typeBehind
set_option maxRecDepth 20000 in
theorem ggX4_writeNames_X4_append : GoodIn wsX4_writeNames wsX4_append := goodIn_r _ [23, 24, 25, 40, 41] (by decide +kernel) (by decide +kernel)
set_option maxRecDepth 20000 in
theorem gX4_writeNames_X4_append : GoodIn wsX4_writeNames (wsV RX4 24 RX4 yX4_append wsX4_append) := goodIn_app (goodIn_of _ (by decide +kernel)) ggX4_writeNames_X4_append
set_option maxRecDepth 20000 in
theorem ggX4_writeNames_X2_length : GoodIn wsX4_writeNames wsX2_length := goodIn_r _ [29, 30, 31, 28, 32, 33] (by decide +kernel) (by decide +kernel)
set_option maxRecDepth 20000 in
theorem gX4_writeNames_X2_length : GoodIn wsX4_writeNames (va_wsS RX4 45 yX2_length wsX2_length) := goodIn_app (goodIn_of _ (by decide +kernel)) ggX4_writeNames_X2_length
set_option maxRecDepth 20000 in
theorem ggX4_writeNames_X2_letter : GoodIn wsX4_writeNames wsX2_letter := goodIn_r _ [32, 33] (by decide +kernel) (by decide +kernel)
set_option maxRecDepth 20000 in
theorem gX4_writeNames_X2_letter : GoodIn wsX4_writeNames (va_wsS RX4 51 yX2_letter wsX2_letter) := goodIn_app (goodIn_of _ (by decide +kernel)) ggX4_writeNames_X2_letter
theorem dX4_writeNames_0 : decode cX4_writeNames 0 = .ok (.aload_n 1, 1) := by decide +kernel
theorem dX4_writeNames_1 : decode cX4_writeNames 1 = .ok (.iload_n 2, 1) := by decide +kernel
theorem dX4_writeNames_2 : decode cX4_writeNames 2 = .ok (.iconst 0, 1) := by decide +kernel
theorem dX4_writeNames_3 : decode cX4_writeNames 3 = .ok (.invokevirtual 38, 3) := by decide +kernel
theorem dX4_writeNames_6 : decode cX4_writeNames 6 = .ok (.istore_n 3, 1) := by decide +kernel
theorem dX4_writeNames_7 : decode cX4_writeNames 7 = .ok (.iconst 0, 1) := by decide +kernel
theorem dX4_writeNames_8 : decode cX4_writeNames 8 = .ok (.istore 4, 2) := by decide +kernel
theorem dX4_writeNames_10 : decode cX4_writeNames 10 = .ok (.iload 4, 2) := by decide +kernel
theorem dX4_writeNames_12 : decode cX4_writeNames 12 = .ok (.bipush 8, 2) := by decide +kernel
theorem dX4_writeNames_14 : decode cX4_writeNames 14 = .ok (.if_icmp .ge 74, 3) := by decide +kernel
theorem dX4_writeNames_17 : decode cX4_writeNames 17 = .ok (.iload_n 3, 1) := by decide +kernel
theorem dX4_writeNames_18 : decode cX4_writeNames 18 = .ok (.ifCond .lt 70, 3) := by decide +kernel
theorem dX4_writeNames_21 : decode cX4_writeNames 21 = .ok (.iload 4, 2) := by decide +kernel
theorem dX4_writeNames_23 : decode cX4_writeNames 23 = .ok (.ifCond .le 9, 3) := by decide +kernel
theorem dX4_writeNames_26 : decode cX4_writeNames 26 = .ok (.aload_n 0, 1) := by decide +kernel
theorem dX4_writeNames_27 : decode cX4_writeNames 27 = .ok (.bipush 44, 2) := by decide +kernel
theorem dX4_writeNames_29 : decode cX4_writeNames 29 = .ok (.invokevirtual 24, 3) := by decide +kernel
theorem dX4_writeNames_32 : decode cX4_writeNames 32 = .ok (.aload_n 1, 1) := by decide +kernel
theorem dX4_writeNames_33 : decode cX4_writeNames 33 = .ok (.getfield 42, 3) := by decide +kernel
theorem dX4_writeNames_36 : decode cX4_writeNames 36 = .ok (.iload_n 3, 1) := by decide +kernel
theorem dX4_writeNames_37 : decode cX4_writeNames 37 = .ok (.iaload, 1) := by decide +kernel
theorem dX4_writeNames_38 : decode cX4_writeNames 38 = .ok (.istore 5, 2) := by decide +kernel
theorem dX4_writeNames_40 : decode cX4_writeNames 40 = .ok (.iload 5, 2) := by decide +kernel
theorem dX4_writeNames_42 : decode cX4_writeNames 42 = .ok (.invokestatic 45, 3) := by decide +kernel
theorem dX4_writeNames_45 : decode cX4_writeNames 45 = .ok (.istore 6, 2) := by decide +kernel
theorem dX4_writeNames_47 : decode cX4_writeNames 47 = .ok (.iconst 0, 1) := by decide +kernel
theorem dX4_writeNames_48 : decode cX4_writeNames 48 = .ok (.istore 7, 2) := by decide +kernel
theorem dX4_writeNames_50 : decode cX4_writeNames 50 = .ok (.iload 7, 2) := by decide +kernel
theorem dX4_writeNames_52 : decode cX4_writeNames 52 = .ok (.iload 6, 2) := by decide +kernel
theorem dX4_writeNames_54 : decode cX4_writeNames 54 = .ok (.if_icmp .ge 20, 3) := by decide +kernel
theorem dX4_writeNames_57 : decode cX4_writeNames 57 = .ok (.aload_n 0, 1) := by decide +kernel
theorem dX4_writeNames_58 : decode cX4_writeNames 58 = .ok (.iload 5, 2) := by decide +kernel
theorem dX4_writeNames_60 : decode cX4_writeNames 60 = .ok (.iload 7, 2) := by decide +kernel
theorem dX4_writeNames_62 : decode cX4_writeNames 62 = .ok (.invokestatic 51, 3) := by decide +kernel
theorem dX4_writeNames_65 : decode cX4_writeNames 65 = .ok (.invokevirtual 24, 3) := by decide +kernel
theorem dX4_writeNames_68 : decode cX4_writeNames 68 = .ok (.iinc 7 1, 3) := by decide +kernel
theorem dX4_writeNames_71 : decode cX4_writeNames 71 = .ok (.goto (-21), 3) := by decide +kernel
theorem dX4_writeNames_74 : decode cX4_writeNames 74 = .ok (.aload_n 1, 1) := by decide +kernel
theorem dX4_writeNames_75 : decode cX4_writeNames 75 = .ok (.iload_n 2, 1) := by decide +kernel
theorem dX4_writeNames_76 : decode cX4_writeNames 76 = .ok (.iload 5, 2) := by decide +kernel
theorem dX4_writeNames_78 : decode cX4_writeNames 78 = .ok (.invokevirtual 38, 3) := by decide +kernel
theorem dX4_writeNames_81 : decode cX4_writeNames 81 = .ok (.istore_n 3, 1) := by decide +kernel
theorem dX4_writeNames_82 : decode cX4_writeNames 82 = .ok (.iinc 4 1, 3) := by decide +kernel
theorem dX4_writeNames_85 : decode cX4_writeNames 85 = .ok (.goto (-75), 3) := by decide +kernel
theorem dX4_writeNames_88 : decode cX4_writeNames 88 = .ok (.return_, 1) := by decide +kernel
theorem dX4_append_0 : decode cX4_append 0 = .ok (.aload_n 0, 1) := by decide +kernel
theorem dX4_append_1 : decode cX4_append 1 = .ok (.getfield 15, 3) := by decide +kernel
theorem dX4_append_4 : decode cX4_append 4 = .ok (.sipush 420, 3) := by decide +kernel
theorem dX4_append_7 : decode cX4_append 7 = .ok (.if_icmp .ge 23, 3) := by decide +kernel
theorem dX4_append_10 : decode cX4_append 10 = .ok (.aload_n 0, 1) := by decide +kernel
theorem dX4_append_11 : decode cX4_append 11 = .ok (.getfield 11, 3) := by decide +kernel
theorem dX4_append_14 : decode cX4_append 14 = .ok (.aload_n 0, 1) := by decide +kernel
theorem dX4_append_15 : decode cX4_append 15 = .ok (.getfield 15, 3) := by decide +kernel
theorem dX4_append_18 : decode cX4_append 18 = .ok (.iload_n 1, 1) := by decide +kernel
theorem dX4_append_19 : decode cX4_append 19 = .ok (.iastore, 1) := by decide +kernel
theorem dX4_append_20 : decode cX4_append 20 = .ok (.aload_n 0, 1) := by decide +kernel
theorem dX4_append_21 : decode cX4_append 21 = .ok (.dup, 1) := by decide +kernel
theorem dX4_append_22 : decode cX4_append 22 = .ok (.getfield 15, 3) := by decide +kernel
theorem dX4_append_25 : decode cX4_append 25 = .ok (.iconst 1, 1) := by decide +kernel
theorem dX4_append_26 : decode cX4_append 26 = .ok (.iadd, 1) := by decide +kernel
theorem dX4_append_27 : decode cX4_append 27 = .ok (.putfield 15, 3) := by decide +kernel
theorem dX4_append_30 : decode cX4_append 30 = .ok (.return_, 1) := by decide +kernel
theorem dJ6_numberOfTrailingZeros_0f7a4_0 : decode cJ6_numberOfTrailingZeros_0f7a4 0 = .ok (.iload_n 0, 1) := by decide +kernel
theorem dJ6_numberOfTrailingZeros_0f7a4_1 : decode cJ6_numberOfTrailingZeros_0f7a4 1 = .ok (.iconst (-1), 1) := by decide +kernel
theorem dJ6_numberOfTrailingZeros_0f7a4_2 : decode cJ6_numberOfTrailingZeros_0f7a4 2 = .ok (.ixor, 1) := by decide +kernel
theorem dJ6_numberOfTrailingZeros_0f7a4_3 : decode cJ6_numberOfTrailingZeros_0f7a4 3 = .ok (.iload_n 0, 1) := by decide +kernel
theorem dJ6_numberOfTrailingZeros_0f7a4_4 : decode cJ6_numberOfTrailingZeros_0f7a4 4 = .ok (.iconst 1, 1) := by decide +kernel
theorem dJ6_numberOfTrailingZeros_0f7a4_5 : decode cJ6_numberOfTrailingZeros_0f7a4 5 = .ok (.isub, 1) := by decide +kernel
theorem dJ6_numberOfTrailingZeros_0f7a4_6 : decode cJ6_numberOfTrailingZeros_0f7a4 6 = .ok (.iand, 1) := by decide +kernel
theorem dJ6_numberOfTrailingZeros_0f7a4_7 : decode cJ6_numberOfTrailingZeros_0f7a4 7 = .ok (.istore_n 0, 1) := by decide +kernel
theorem dJ6_numberOfTrailingZeros_0f7a4_8 : decode cJ6_numberOfTrailingZeros_0f7a4 8 = .ok (.iload_n 0, 1) := by decide +kernel
theorem dJ6_numberOfTrailingZeros_0f7a4_9 : decode cJ6_numberOfTrailingZeros_0f7a4 9 = .ok (.ifCond .gt 8, 3) := by decide +kernel
theorem dJ6_numberOfTrailingZeros_0f7a4_12 : decode cJ6_numberOfTrailingZeros_0f7a4 12 = .ok (.iload_n 0, 1) := by decide +kernel
theorem dJ6_numberOfTrailingZeros_0f7a4_13 : decode cJ6_numberOfTrailingZeros_0f7a4 13 = .ok (.bipush 32, 2) := by decide +kernel
theorem dJ6_numberOfTrailingZeros_0f7a4_15 : decode cJ6_numberOfTrailingZeros_0f7a4 15 = .ok (.iand, 1) := by decide +kernel
theorem dJ6_numberOfTrailingZeros_0f7a4_16 : decode cJ6_numberOfTrailingZeros_0f7a4 16 = .ok (.ireturn, 1) := by decide +kernel
theorem dJ6_numberOfTrailingZeros_0f7a4_17 : decode cJ6_numberOfTrailingZeros_0f7a4 17 = .ok (.iconst 1, 1) := by decide +kernel
theorem dJ6_numberOfTrailingZeros_0f7a4_18 : decode cJ6_numberOfTrailingZeros_0f7a4 18 = .ok (.istore_n 1, 1) := by decide +kernel
theorem dJ6_numberOfTrailingZeros_0f7a4_19 : decode cJ6_numberOfTrailingZeros_0f7a4 19 = .ok (.iload_n 0, 1) := by decide +kernel
theorem dJ6_numberOfTrailingZeros_0f7a4_20 : decode cJ6_numberOfTrailingZeros_0f7a4 20 = .ok (.ldc_w 264, 3) := by decide +kernel
theorem dJ6_numberOfTrailingZeros_0f7a4_23 : decode cJ6_numberOfTrailingZeros_0f7a4 23 = .ok (.if_icmp .le 11, 3) := by decide +kernel
theorem dJ6_numberOfTrailingZeros_0f7a4_26 : decode cJ6_numberOfTrailingZeros_0f7a4 26 = .ok (.iinc 1 16, 3) := by decide +kernel
theorem dJ6_numberOfTrailingZeros_0f7a4_29 : decode cJ6_numberOfTrailingZeros_0f7a4 29 = .ok (.iload_n 0, 1) := by decide +kernel
theorem dJ6_numberOfTrailingZeros_0f7a4_30 : decode cJ6_numberOfTrailingZeros_0f7a4 30 = .ok (.bipush 16, 2) := by decide +kernel
theorem dJ6_numberOfTrailingZeros_0f7a4_32 : decode cJ6_numberOfTrailingZeros_0f7a4 32 = .ok (.iushr, 1) := by decide +kernel
theorem dJ6_numberOfTrailingZeros_0f7a4_33 : decode cJ6_numberOfTrailingZeros_0f7a4 33 = .ok (.istore_n 0, 1) := by decide +kernel
theorem dJ6_numberOfTrailingZeros_0f7a4_34 : decode cJ6_numberOfTrailingZeros_0f7a4 34 = .ok (.iload_n 0, 1) := by decide +kernel
theorem dJ6_numberOfTrailingZeros_0f7a4_35 : decode cJ6_numberOfTrailingZeros_0f7a4 35 = .ok (.sipush 256, 3) := by decide +kernel
theorem dJ6_numberOfTrailingZeros_0f7a4_38 : decode cJ6_numberOfTrailingZeros_0f7a4 38 = .ok (.if_icmp .le 11, 3) := by decide +kernel
theorem dJ6_numberOfTrailingZeros_0f7a4_41 : decode cJ6_numberOfTrailingZeros_0f7a4 41 = .ok (.iinc 1 8, 3) := by decide +kernel
theorem dJ6_numberOfTrailingZeros_0f7a4_44 : decode cJ6_numberOfTrailingZeros_0f7a4 44 = .ok (.iload_n 0, 1) := by decide +kernel
theorem dJ6_numberOfTrailingZeros_0f7a4_45 : decode cJ6_numberOfTrailingZeros_0f7a4 45 = .ok (.bipush 8, 2) := by decide +kernel
theorem dJ6_numberOfTrailingZeros_0f7a4_47 : decode cJ6_numberOfTrailingZeros_0f7a4 47 = .ok (.iushr, 1) := by decide +kernel
theorem dJ6_numberOfTrailingZeros_0f7a4_48 : decode cJ6_numberOfTrailingZeros_0f7a4 48 = .ok (.istore_n 0, 1) := by decide +kernel
theorem dJ6_numberOfTrailingZeros_0f7a4_49 : decode cJ6_numberOfTrailingZeros_0f7a4 49 = .ok (.iload_n 0, 1) := by decide +kernel
theorem dJ6_numberOfTrailingZeros_0f7a4_50 : decode cJ6_numberOfTrailingZeros_0f7a4 50 = .ok (.bipush 16, 2) := by decide +kernel
theorem dJ6_numberOfTrailingZeros_0f7a4_52 : decode cJ6_numberOfTrailingZeros_0f7a4 52 = .ok (.if_icmp .le 10, 3) := by decide +kernel
theorem dJ6_numberOfTrailingZeros_0f7a4_55 : decode cJ6_numberOfTrailingZeros_0f7a4 55 = .ok (.iinc 1 4, 3) := by decide +kernel
theorem dJ6_numberOfTrailingZeros_0f7a4_58 : decode cJ6_numberOfTrailingZeros_0f7a4 58 = .ok (.iload_n 0, 1) := by decide +kernel
theorem dJ6_numberOfTrailingZeros_0f7a4_59 : decode cJ6_numberOfTrailingZeros_0f7a4 59 = .ok (.iconst 4, 1) := by decide +kernel
theorem dJ6_numberOfTrailingZeros_0f7a4_60 : decode cJ6_numberOfTrailingZeros_0f7a4 60 = .ok (.iushr, 1) := by decide +kernel
theorem dJ6_numberOfTrailingZeros_0f7a4_61 : decode cJ6_numberOfTrailingZeros_0f7a4 61 = .ok (.istore_n 0, 1) := by decide +kernel
theorem dJ6_numberOfTrailingZeros_0f7a4_62 : decode cJ6_numberOfTrailingZeros_0f7a4 62 = .ok (.iload_n 0, 1) := by decide +kernel
theorem dJ6_numberOfTrailingZeros_0f7a4_63 : decode cJ6_numberOfTrailingZeros_0f7a4 63 = .ok (.iconst 4, 1) := by decide +kernel
theorem dJ6_numberOfTrailingZeros_0f7a4_64 : decode cJ6_numberOfTrailingZeros_0f7a4 64 = .ok (.if_icmp .le 10, 3) := by decide +kernel
theorem dJ6_numberOfTrailingZeros_0f7a4_67 : decode cJ6_numberOfTrailingZeros_0f7a4 67 = .ok (.iinc 1 2, 3) := by decide +kernel
theorem dJ6_numberOfTrailingZeros_0f7a4_70 : decode cJ6_numberOfTrailingZeros_0f7a4 70 = .ok (.iload_n 0, 1) := by decide +kernel
theorem dJ6_numberOfTrailingZeros_0f7a4_71 : decode cJ6_numberOfTrailingZeros_0f7a4 71 = .ok (.iconst 2, 1) := by decide +kernel
theorem dJ6_numberOfTrailingZeros_0f7a4_72 : decode cJ6_numberOfTrailingZeros_0f7a4 72 = .ok (.iushr, 1) := by decide +kernel
theorem dJ6_numberOfTrailingZeros_0f7a4_73 : decode cJ6_numberOfTrailingZeros_0f7a4 73 = .ok (.istore_n 0, 1) := by decide +kernel
theorem dJ6_numberOfTrailingZeros_0f7a4_74 : decode cJ6_numberOfTrailingZeros_0f7a4 74 = .ok (.iload_n 1, 1) := by decide +kernel
theorem dJ6_numberOfTrailingZeros_0f7a4_75 : decode cJ6_numberOfTrailingZeros_0f7a4 75 = .ok (.iload_n 0, 1) := by decide +kernel
theorem dJ6_numberOfTrailingZeros_0f7a4_76 : decode cJ6_numberOfTrailingZeros_0f7a4 76 = .ok (.iconst 1, 1) := by decide +kernel
theorem dJ6_numberOfTrailingZeros_0f7a4_77 : decode cJ6_numberOfTrailingZeros_0f7a4 77 = .ok (.iushr, 1) := by decide +kernel
theorem dJ6_numberOfTrailingZeros_0f7a4_78 : decode cJ6_numberOfTrailingZeros_0f7a4 78 = .ok (.iadd, 1) := by decide +kernel
theorem dJ6_numberOfTrailingZeros_0f7a4_79 : decode cJ6_numberOfTrailingZeros_0f7a4 79 = .ok (.ireturn, 1) := by decide +kernel
theorem dJ6_bitCount_0f7a4_0 : decode cJ6_bitCount_0f7a4 0 = .ok (.iload_n 0, 1) := by decide +kernel
theorem dJ6_bitCount_0f7a4_1 : decode cJ6_bitCount_0f7a4 1 = .ok (.iload_n 0, 1) := by decide +kernel
theorem dJ6_bitCount_0f7a4_2 : decode cJ6_bitCount_0f7a4 2 = .ok (.iconst 1, 1) := by decide +kernel
theorem dJ6_bitCount_0f7a4_3 : decode cJ6_bitCount_0f7a4 3 = .ok (.iushr, 1) := by decide +kernel
theorem dJ6_bitCount_0f7a4_4 : decode cJ6_bitCount_0f7a4 4 = .ok (.ldc_w 265, 3) := by decide +kernel
theorem dJ6_bitCount_0f7a4_7 : decode cJ6_bitCount_0f7a4 7 = .ok (.iand, 1) := by decide +kernel
theorem dJ6_bitCount_0f7a4_8 : decode cJ6_bitCount_0f7a4 8 = .ok (.isub, 1) := by decide +kernel
theorem dJ6_bitCount_0f7a4_9 : decode cJ6_bitCount_0f7a4 9 = .ok (.istore_n 0, 1) := by decide +kernel
theorem dJ6_bitCount_0f7a4_10 : decode cJ6_bitCount_0f7a4 10 = .ok (.iload_n 0, 1) := by decide +kernel
theorem dJ6_bitCount_0f7a4_11 : decode cJ6_bitCount_0f7a4 11 = .ok (.ldc_w 266, 3) := by decide +kernel
theorem dJ6_bitCount_0f7a4_14 : decode cJ6_bitCount_0f7a4 14 = .ok (.iand, 1) := by decide +kernel
theorem dJ6_bitCount_0f7a4_15 : decode cJ6_bitCount_0f7a4 15 = .ok (.iload_n 0, 1) := by decide +kernel
theorem dJ6_bitCount_0f7a4_16 : decode cJ6_bitCount_0f7a4 16 = .ok (.iconst 2, 1) := by decide +kernel
theorem dJ6_bitCount_0f7a4_17 : decode cJ6_bitCount_0f7a4 17 = .ok (.iushr, 1) := by decide +kernel
theorem dJ6_bitCount_0f7a4_18 : decode cJ6_bitCount_0f7a4 18 = .ok (.ldc_w 266, 3) := by decide +kernel
theorem dJ6_bitCount_0f7a4_21 : decode cJ6_bitCount_0f7a4 21 = .ok (.iand, 1) := by decide +kernel
theorem dJ6_bitCount_0f7a4_22 : decode cJ6_bitCount_0f7a4 22 = .ok (.iadd, 1) := by decide +kernel
theorem dJ6_bitCount_0f7a4_23 : decode cJ6_bitCount_0f7a4 23 = .ok (.istore_n 0, 1) := by decide +kernel
theorem dJ6_bitCount_0f7a4_24 : decode cJ6_bitCount_0f7a4 24 = .ok (.iload_n 0, 1) := by decide +kernel
theorem dJ6_bitCount_0f7a4_25 : decode cJ6_bitCount_0f7a4 25 = .ok (.iload_n 0, 1) := by decide +kernel
theorem dJ6_bitCount_0f7a4_26 : decode cJ6_bitCount_0f7a4 26 = .ok (.iconst 4, 1) := by decide +kernel
theorem dJ6_bitCount_0f7a4_27 : decode cJ6_bitCount_0f7a4 27 = .ok (.iushr, 1) := by decide +kernel
theorem dJ6_bitCount_0f7a4_28 : decode cJ6_bitCount_0f7a4 28 = .ok (.iadd, 1) := by decide +kernel
theorem dJ6_bitCount_0f7a4_29 : decode cJ6_bitCount_0f7a4 29 = .ok (.ldc_w 267, 3) := by decide +kernel
theorem dJ6_bitCount_0f7a4_32 : decode cJ6_bitCount_0f7a4 32 = .ok (.iand, 1) := by decide +kernel
theorem dJ6_bitCount_0f7a4_33 : decode cJ6_bitCount_0f7a4 33 = .ok (.istore_n 0, 1) := by decide +kernel
theorem dJ6_bitCount_0f7a4_34 : decode cJ6_bitCount_0f7a4 34 = .ok (.iload_n 0, 1) := by decide +kernel
theorem dJ6_bitCount_0f7a4_35 : decode cJ6_bitCount_0f7a4 35 = .ok (.iload_n 0, 1) := by decide +kernel
theorem dJ6_bitCount_0f7a4_36 : decode cJ6_bitCount_0f7a4 36 = .ok (.bipush 8, 2) := by decide +kernel
theorem dJ6_bitCount_0f7a4_38 : decode cJ6_bitCount_0f7a4 38 = .ok (.iushr, 1) := by decide +kernel
theorem dJ6_bitCount_0f7a4_39 : decode cJ6_bitCount_0f7a4 39 = .ok (.iadd, 1) := by decide +kernel
theorem dJ6_bitCount_0f7a4_40 : decode cJ6_bitCount_0f7a4 40 = .ok (.istore_n 0, 1) := by decide +kernel
theorem dJ6_bitCount_0f7a4_41 : decode cJ6_bitCount_0f7a4 41 = .ok (.iload_n 0, 1) := by decide +kernel
theorem dJ6_bitCount_0f7a4_42 : decode cJ6_bitCount_0f7a4 42 = .ok (.iload_n 0, 1) := by decide +kernel
theorem dJ6_bitCount_0f7a4_43 : decode cJ6_bitCount_0f7a4 43 = .ok (.bipush 16, 2) := by decide +kernel
theorem dJ6_bitCount_0f7a4_45 : decode cJ6_bitCount_0f7a4 45 = .ok (.iushr, 1) := by decide +kernel
theorem dJ6_bitCount_0f7a4_46 : decode cJ6_bitCount_0f7a4 46 = .ok (.iadd, 1) := by decide +kernel
theorem dJ6_bitCount_0f7a4_47 : decode cJ6_bitCount_0f7a4 47 = .ok (.istore_n 0, 1) := by decide +kernel
theorem dJ6_bitCount_0f7a4_48 : decode cJ6_bitCount_0f7a4 48 = .ok (.iload_n 0, 1) := by decide +kernel
theorem dJ6_bitCount_0f7a4_49 : decode cJ6_bitCount_0f7a4 49 = .ok (.bipush 63, 2) := by decide +kernel
theorem dJ6_bitCount_0f7a4_51 : decode cJ6_bitCount_0f7a4 51 = .ok (.iand, 1) := by decide +kernel
theorem dJ6_bitCount_0f7a4_52 : decode cJ6_bitCount_0f7a4 52 = .ok (.ireturn, 1) := by decide +kernel
theorem dJ9_max_7cf53_0 : decode cJ9_max_7cf53 0 = .ok (.iload_n 0, 1) := by decide +kernel
theorem dJ9_max_7cf53_1 : decode cJ9_max_7cf53 1 = .ok (.iload_n 1, 1) := by decide +kernel
theorem dJ9_max_7cf53_2 : decode cJ9_max_7cf53 2 = .ok (.if_icmp .lt 7, 3) := by decide +kernel
theorem dJ9_max_7cf53_5 : decode cJ9_max_7cf53 5 = .ok (.iload_n 0, 1) := by decide +kernel
theorem dJ9_max_7cf53_6 : decode cJ9_max_7cf53 6 = .ok (.goto 4, 3) := by decide +kernel
theorem dJ9_max_7cf53_9 : decode cJ9_max_7cf53 9 = .ok (.iload_n 1, 1) := by decide +kernel
theorem dJ9_max_7cf53_10 : decode cJ9_max_7cf53 10 = .ok (.ireturn, 1) := by decide +kernel
theorem dJ9_min_7cf53_0 : decode cJ9_min_7cf53 0 = .ok (.iload_n 0, 1) := by decide +kernel
theorem dJ9_min_7cf53_1 : decode cJ9_min_7cf53 1 = .ok (.iload_n 1, 1) := by decide +kernel
theorem dJ9_min_7cf53_2 : decode cJ9_min_7cf53 2 = .ok (.if_icmp .gt 7, 3) := by decide +kernel
theorem dJ9_min_7cf53_5 : decode cJ9_min_7cf53 5 = .ok (.iload_n 0, 1) := by decide +kernel
theorem dJ9_min_7cf53_6 : decode cJ9_min_7cf53 6 = .ok (.goto 4, 3) := by decide +kernel
theorem dJ9_min_7cf53_9 : decode cJ9_min_7cf53 9 = .ok (.iload_n 1, 1) := by decide +kernel
theorem dJ9_min_7cf53_10 : decode cJ9_min_7cf53 10 = .ok (.ireturn, 1) := by decide +kernel
