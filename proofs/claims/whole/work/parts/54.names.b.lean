theorem dX5_init_0 : decode cX5_init 0 = .ok (.aload_n 0, 1) := by decide +kernel
theorem dX5_init_1 : decode cX5_init 1 = .ok (.invokespecial 3, 3) := by decide +kernel
theorem dX5_init_4 : decode cX5_init 4 = .ok (.aload_n 0, 1) := by decide +kernel
theorem dX5_init_5 : decode cX5_init 5 = .ok (.bipush 7, 2) := by decide +kernel
theorem dX5_init_7 : decode cX5_init 7 = .ok (.newarray .int, 2) := by decide +kernel
theorem dX5_init_9 : decode cX5_init 9 = .ok (.putfield 9, 3) := by decide +kernel
theorem dX5_init_12 : decode cX5_init 12 = .ok (.aload_n 0, 1) := by decide +kernel
theorem dX5_init_13 : decode cX5_init 13 = .ok (.bipush 7, 2) := by decide +kernel
theorem dX5_init_15 : decode cX5_init 15 = .ok (.newarray .int, 2) := by decide +kernel
theorem dX5_init_17 : decode cX5_init 17 = .ok (.putfield 15, 3) := by decide +kernel
theorem dX5_init_20 : decode cX5_init 20 = .ok (.aload_n 0, 1) := by decide +kernel
theorem dX5_init_21 : decode cX5_init 21 = .ok (.bipush 8, 2) := by decide +kernel
theorem dX5_init_23 : decode cX5_init 23 = .ok (.newarray .int, 2) := by decide +kernel
theorem dX5_init_25 : decode cX5_init 25 = .ok (.putfield 18, 3) := by decide +kernel
theorem dX5_init_28 : decode cX5_init 28 = .ok (.return_, 1) := by decide +kernel
theorem dX5_become_0 : decode cX5_become 0 = .ok (.aload_n 0, 1) := by decide +kernel
theorem dX5_become_1 : decode cX5_become 1 = .ok (.aload_n 1, 1) := by decide +kernel
theorem dX5_become_2 : decode cX5_become 2 = .ok (.getfield 21, 3) := by decide +kernel
theorem dX5_become_5 : decode cX5_become 5 = .ok (.putfield 21, 3) := by decide +kernel
theorem dX5_become_8 : decode cX5_become 8 = .ok (.aload_n 0, 1) := by decide +kernel
theorem dX5_become_9 : decode cX5_become 9 = .ok (.aload_n 1, 1) := by decide +kernel
theorem dX5_become_10 : decode cX5_become 10 = .ok (.getfield 25, 3) := by decide +kernel
theorem dX5_become_13 : decode cX5_become 13 = .ok (.putfield 25, 3) := by decide +kernel
theorem dX5_become_16 : decode cX5_become 16 = .ok (.aload_n 1, 1) := by decide +kernel
theorem dX5_become_17 : decode cX5_become 17 = .ok (.getfield 9, 3) := by decide +kernel
theorem dX5_become_20 : decode cX5_become 20 = .ok (.iconst 0, 1) := by decide +kernel
theorem dX5_become_21 : decode cX5_become 21 = .ok (.aload_n 0, 1) := by decide +kernel
theorem dX5_become_22 : decode cX5_become 22 = .ok (.getfield 9, 3) := by decide +kernel
theorem dX5_become_25 : decode cX5_become 25 = .ok (.iconst 0, 1) := by decide +kernel
theorem dX5_become_26 : decode cX5_become 26 = .ok (.bipush 7, 2) := by decide +kernel
theorem dX5_become_28 : decode cX5_become 28 = .ok (.invokestatic 28, 3) := by decide +kernel
theorem dX5_become_31 : decode cX5_become 31 = .ok (.aload_n 1, 1) := by decide +kernel
theorem dX5_become_32 : decode cX5_become 32 = .ok (.getfield 15, 3) := by decide +kernel
theorem dX5_become_35 : decode cX5_become 35 = .ok (.iconst 0, 1) := by decide +kernel
theorem dX5_become_36 : decode cX5_become 36 = .ok (.aload_n 0, 1) := by decide +kernel
theorem dX5_become_37 : decode cX5_become 37 = .ok (.getfield 15, 3) := by decide +kernel
theorem dX5_become_40 : decode cX5_become 40 = .ok (.iconst 0, 1) := by decide +kernel
theorem dX5_become_41 : decode cX5_become 41 = .ok (.bipush 7, 2) := by decide +kernel
theorem dX5_become_43 : decode cX5_become 43 = .ok (.invokestatic 28, 3) := by decide +kernel
theorem dX5_become_46 : decode cX5_become 46 = .ok (.aload_n 1, 1) := by decide +kernel
theorem dX5_become_47 : decode cX5_become 47 = .ok (.getfield 18, 3) := by decide +kernel
theorem dX5_become_50 : decode cX5_become 50 = .ok (.iconst 0, 1) := by decide +kernel
theorem dX5_become_51 : decode cX5_become 51 = .ok (.aload_n 0, 1) := by decide +kernel
theorem dX5_become_52 : decode cX5_become 52 = .ok (.getfield 18, 3) := by decide +kernel
theorem dX5_become_55 : decode cX5_become 55 = .ok (.iconst 0, 1) := by decide +kernel
theorem dX5_become_56 : decode cX5_become 56 = .ok (.bipush 8, 2) := by decide +kernel
theorem dX5_become_58 : decode cX5_become 58 = .ok (.invokestatic 28, 3) := by decide +kernel
theorem dX5_become_61 : decode cX5_become 61 = .ok (.return_, 1) := by decide +kernel
theorem dX5_holds_0 : decode cX5_holds 0 = .ok (.iload_n 1, 1) := by decide +kernel
theorem dX5_holds_1 : decode cX5_holds 1 = .ok (.ifCond .lt 15, 3) := by decide +kernel
theorem dX5_holds_4 : decode cX5_holds 4 = .ok (.iload_n 1, 1) := by decide +kernel
theorem dX5_holds_5 : decode cX5_holds 5 = .ok (.aload_n 0, 1) := by decide +kernel
theorem dX5_holds_6 : decode cX5_holds 6 = .ok (.getfield 21, 3) := by decide +kernel
theorem dX5_holds_9 : decode cX5_holds 9 = .ok (.if_icmp .ge 7, 3) := by decide +kernel
theorem dX5_holds_12 : decode cX5_holds 12 = .ok (.iconst 1, 1) := by decide +kernel
theorem dX5_holds_13 : decode cX5_holds 13 = .ok (.goto 4, 3) := by decide +kernel
theorem dX5_holds_16 : decode cX5_holds 16 = .ok (.iconst 0, 1) := by decide +kernel
theorem dX5_holds_17 : decode cX5_holds 17 = .ok (.ireturn, 1) := by decide +kernel
theorem dX5_knows_0 : decode cX5_knows 0 = .ok (.iload_n 1, 1) := by decide +kernel
theorem dX5_knows_1 : decode cX5_knows 1 = .ok (.ifCond .lt 15, 3) := by decide +kernel
theorem dX5_knows_4 : decode cX5_knows 4 = .ok (.iload_n 1, 1) := by decide +kernel
theorem dX5_knows_5 : decode cX5_knows 5 = .ok (.aload_n 0, 1) := by decide +kernel
theorem dX5_knows_6 : decode cX5_knows 6 = .ok (.getfield 25, 3) := by decide +kernel
theorem dX5_knows_9 : decode cX5_knows 9 = .ok (.if_icmp .ge 7, 3) := by decide +kernel
theorem dX5_knows_12 : decode cX5_knows 12 = .ok (.iconst 1, 1) := by decide +kernel
theorem dX5_knows_13 : decode cX5_knows 13 = .ok (.goto 4, 3) := by decide +kernel
theorem dX5_knows_16 : decode cX5_knows 16 = .ok (.iconst 0, 1) := by decide +kernel
theorem dX5_knows_17 : decode cX5_knows 17 = .ok (.ireturn, 1) := by decide +kernel
theorem dX5_everybody_0 : decode cX5_everybody 0 = .ok (.iconst 1, 1) := by decide +kernel
theorem dX5_everybody_1 : decode cX5_everybody 1 = .ok (.aload_n 0, 1) := by decide +kernel
theorem dX5_everybody_2 : decode cX5_everybody 2 = .ok (.getfield 21, 3) := by decide +kernel
theorem dX5_everybody_5 : decode cX5_everybody 5 = .ok (.ishl, 1) := by decide +kernel
theorem dX5_everybody_6 : decode cX5_everybody 6 = .ok (.iconst 1, 1) := by decide +kernel
theorem dX5_everybody_7 : decode cX5_everybody 7 = .ok (.isub, 1) := by decide +kernel
theorem dX5_everybody_8 : decode cX5_everybody 8 = .ok (.ireturn, 1) := by decide +kernel
theorem dX5_everything_0 : decode cX5_everything 0 = .ok (.iconst 1, 1) := by decide +kernel
theorem dX5_everything_1 : decode cX5_everything 1 = .ok (.aload_n 0, 1) := by decide +kernel
theorem dX5_everything_2 : decode cX5_everything 2 = .ok (.getfield 25, 3) := by decide +kernel
theorem dX5_everything_5 : decode cX5_everything 5 = .ok (.ishl, 1) := by decide +kernel
theorem dX5_everything_6 : decode cX5_everything 6 = .ok (.iconst 1, 1) := by decide +kernel
theorem dX5_everything_7 : decode cX5_everything 7 = .ok (.isub, 1) := by decide +kernel
theorem dX5_everything_8 : decode cX5_everything 8 = .ok (.ireturn, 1) := by decide +kernel
theorem dX5_dig_0 : decode cX5_dig 0 = .ok (.aload_n 0, 1) := by decide +kernel
theorem dX5_dig_1 : decode cX5_dig 1 = .ok (.getfield 21, 3) := by decide +kernel
theorem dX5_dig_4 : decode cX5_dig 4 = .ok (.bipush 7, 2) := by decide +kernel
theorem dX5_dig_6 : decode cX5_dig 6 = .ok (.if_icmp .lt 5, 3) := by decide +kernel
theorem dX5_dig_9 : decode cX5_dig 9 = .ok (.iconst (-1), 1) := by decide +kernel
theorem dX5_dig_10 : decode cX5_dig 10 = .ok (.ireturn, 1) := by decide +kernel
theorem dX5_dig_11 : decode cX5_dig 11 = .ok (.aload_n 0, 1) := by decide +kernel
theorem dX5_dig_12 : decode cX5_dig 12 = .ok (.getfield 9, 3) := by decide +kernel
theorem dX5_dig_15 : decode cX5_dig 15 = .ok (.aload_n 0, 1) := by decide +kernel
theorem dX5_dig_16 : decode cX5_dig 16 = .ok (.getfield 21, 3) := by decide +kernel
theorem dX5_dig_19 : decode cX5_dig 19 = .ok (.iload_n 1, 1) := by decide +kernel
theorem dX5_dig_20 : decode cX5_dig 20 = .ok (.iastore, 1) := by decide +kernel
theorem dX5_dig_21 : decode cX5_dig 21 = .ok (.aload_n 0, 1) := by decide +kernel
theorem dX5_dig_22 : decode cX5_dig 22 = .ok (.getfield 15, 3) := by decide +kernel
theorem dX5_dig_25 : decode cX5_dig 25 = .ok (.aload_n 0, 1) := by decide +kernel
theorem dX5_dig_26 : decode cX5_dig 26 = .ok (.getfield 21, 3) := by decide +kernel
theorem dX5_dig_29 : decode cX5_dig 29 = .ok (.iconst 0, 1) := by decide +kernel
theorem dX5_dig_30 : decode cX5_dig 30 = .ok (.iastore, 1) := by decide +kernel
theorem dX5_dig_31 : decode cX5_dig 31 = .ok (.aload_n 0, 1) := by decide +kernel
theorem dX5_dig_32 : decode cX5_dig 32 = .ok (.dup, 1) := by decide +kernel
theorem dX5_dig_33 : decode cX5_dig 33 = .ok (.getfield 21, 3) := by decide +kernel
theorem dX5_dig_36 : decode cX5_dig 36 = .ok (.dup_x1, 1) := by decide +kernel
theorem dX5_dig_37 : decode cX5_dig 37 = .ok (.iconst 1, 1) := by decide +kernel
theorem dX5_dig_38 : decode cX5_dig 38 = .ok (.iadd, 1) := by decide +kernel
theorem dX5_dig_39 : decode cX5_dig 39 = .ok (.putfield 21, 3) := by decide +kernel
theorem dX5_dig_42 : decode cX5_dig 42 = .ok (.ireturn, 1) := by decide +kernel
theorem dX5_remove_0 : decode cX5_remove 0 = .ok (.iload_n 1, 1) := by decide +kernel
theorem dX5_remove_1 : decode cX5_remove 1 = .ok (.istore_n 2, 1) := by decide +kernel
theorem dX5_remove_2 : decode cX5_remove 2 = .ok (.iload_n 2, 1) := by decide +kernel
theorem dX5_remove_3 : decode cX5_remove 3 = .ok (.iconst 1, 1) := by decide +kernel
theorem dX5_remove_4 : decode cX5_remove 4 = .ok (.iadd, 1) := by decide +kernel
theorem dX5_remove_5 : decode cX5_remove 5 = .ok (.aload_n 0, 1) := by decide +kernel
theorem dX5_remove_6 : decode cX5_remove 6 = .ok (.getfield 21, 3) := by decide +kernel
theorem dX5_remove_9 : decode cX5_remove 9 = .ok (.if_icmp .ge 37, 3) := by decide +kernel
theorem dX5_remove_12 : decode cX5_remove 12 = .ok (.aload_n 0, 1) := by decide +kernel
theorem dX5_remove_13 : decode cX5_remove 13 = .ok (.getfield 9, 3) := by decide +kernel
theorem dX5_remove_16 : decode cX5_remove 16 = .ok (.iload_n 2, 1) := by decide +kernel
theorem dX5_remove_17 : decode cX5_remove 17 = .ok (.aload_n 0, 1) := by decide +kernel
theorem dX5_remove_18 : decode cX5_remove 18 = .ok (.getfield 9, 3) := by decide +kernel
theorem dX5_remove_21 : decode cX5_remove 21 = .ok (.iload_n 2, 1) := by decide +kernel
theorem dX5_remove_22 : decode cX5_remove 22 = .ok (.iconst 1, 1) := by decide +kernel
theorem dX5_remove_23 : decode cX5_remove 23 = .ok (.iadd, 1) := by decide +kernel
theorem dX5_remove_24 : decode cX5_remove 24 = .ok (.iaload, 1) := by decide +kernel
theorem dX5_remove_25 : decode cX5_remove 25 = .ok (.iastore, 1) := by decide +kernel
theorem dX5_remove_26 : decode cX5_remove 26 = .ok (.aload_n 0, 1) := by decide +kernel
theorem dX5_remove_27 : decode cX5_remove 27 = .ok (.getfield 15, 3) := by decide +kernel
theorem dX5_remove_30 : decode cX5_remove 30 = .ok (.iload_n 2, 1) := by decide +kernel
theorem dX5_remove_31 : decode cX5_remove 31 = .ok (.aload_n 0, 1) := by decide +kernel
theorem dX5_remove_32 : decode cX5_remove 32 = .ok (.getfield 15, 3) := by decide +kernel
theorem dX5_remove_35 : decode cX5_remove 35 = .ok (.iload_n 2, 1) := by decide +kernel
theorem dX5_remove_36 : decode cX5_remove 36 = .ok (.iconst 1, 1) := by decide +kernel
theorem dX5_remove_37 : decode cX5_remove 37 = .ok (.iadd, 1) := by decide +kernel
theorem dX5_remove_38 : decode cX5_remove 38 = .ok (.iaload, 1) := by decide +kernel
theorem dX5_remove_39 : decode cX5_remove 39 = .ok (.iastore, 1) := by decide +kernel
theorem dX5_remove_40 : decode cX5_remove 40 = .ok (.iinc 2 1, 3) := by decide +kernel
theorem dX5_remove_43 : decode cX5_remove 43 = .ok (.goto (-41), 3) := by decide +kernel
theorem dX5_remove_46 : decode cX5_remove 46 = .ok (.aload_n 0, 1) := by decide +kernel
theorem dX5_remove_47 : decode cX5_remove 47 = .ok (.dup, 1) := by decide +kernel
theorem dX5_remove_48 : decode cX5_remove 48 = .ok (.getfield 21, 3) := by decide +kernel
theorem dX5_remove_51 : decode cX5_remove 51 = .ok (.iconst 1, 1) := by decide +kernel
theorem dX5_remove_52 : decode cX5_remove 52 = .ok (.isub, 1) := by decide +kernel
theorem dX5_remove_53 : decode cX5_remove 53 = .ok (.putfield 21, 3) := by decide +kernel
theorem dX5_remove_56 : decode cX5_remove 56 = .ok (.return_, 1) := by decide +kernel
theorem dX5_named_0 : decode cX5_named 0 = .ok (.iconst 0, 1) := by decide +kernel
theorem dX5_named_1 : decode cX5_named 1 = .ok (.istore_n 2, 1) := by decide +kernel
theorem dX5_named_2 : decode cX5_named 2 = .ok (.iload_n 2, 1) := by decide +kernel
theorem dX5_named_3 : decode cX5_named 3 = .ok (.aload_n 0, 1) := by decide +kernel
theorem dX5_named_4 : decode cX5_named 4 = .ok (.getfield 25, 3) := by decide +kernel
theorem dX5_named_7 : decode cX5_named 7 = .ok (.if_icmp .ge 21, 3) := by decide +kernel
theorem dX5_named_10 : decode cX5_named 10 = .ok (.aload_n 0, 1) := by decide +kernel
theorem dX5_named_11 : decode cX5_named 11 = .ok (.getfield 18, 3) := by decide +kernel
theorem dX5_named_14 : decode cX5_named 14 = .ok (.iload_n 2, 1) := by decide +kernel
theorem dX5_named_15 : decode cX5_named 15 = .ok (.iaload, 1) := by decide +kernel
theorem dX5_named_16 : decode cX5_named 16 = .ok (.iload_n 1, 1) := by decide +kernel
theorem dX5_named_17 : decode cX5_named 17 = .ok (.if_icmp .ne 5, 3) := by decide +kernel
theorem dX5_named_20 : decode cX5_named 20 = .ok (.iload_n 2, 1) := by decide +kernel
theorem dX5_named_21 : decode cX5_named 21 = .ok (.ireturn, 1) := by decide +kernel
theorem dX5_named_22 : decode cX5_named 22 = .ok (.iinc 2 1, 3) := by decide +kernel
theorem dX5_named_25 : decode cX5_named 25 = .ok (.goto (-23), 3) := by decide +kernel
theorem dX5_named_28 : decode cX5_named 28 = .ok (.aload_n 0, 1) := by decide +kernel
theorem dX5_named_29 : decode cX5_named 29 = .ok (.getfield 25, 3) := by decide +kernel
theorem dX5_named_32 : decode cX5_named 32 = .ok (.bipush 8, 2) := by decide +kernel
theorem dX5_named_34 : decode cX5_named 34 = .ok (.if_icmp .lt 5, 3) := by decide +kernel
theorem dX5_named_37 : decode cX5_named 37 = .ok (.iconst (-1), 1) := by decide +kernel
theorem dX5_named_38 : decode cX5_named 38 = .ok (.ireturn, 1) := by decide +kernel
theorem dX5_named_39 : decode cX5_named 39 = .ok (.aload_n 0, 1) := by decide +kernel
theorem dX5_named_40 : decode cX5_named 40 = .ok (.getfield 18, 3) := by decide +kernel
theorem dX5_named_43 : decode cX5_named 43 = .ok (.aload_n 0, 1) := by decide +kernel
theorem dX5_named_44 : decode cX5_named 44 = .ok (.getfield 25, 3) := by decide +kernel
theorem dX5_named_47 : decode cX5_named 47 = .ok (.iload_n 1, 1) := by decide +kernel
theorem dX5_named_48 : decode cX5_named 48 = .ok (.iastore, 1) := by decide +kernel
theorem dX5_named_49 : decode cX5_named 49 = .ok (.aload_n 0, 1) := by decide +kernel
theorem dX5_named_50 : decode cX5_named 50 = .ok (.dup, 1) := by decide +kernel
theorem dX5_named_51 : decode cX5_named 51 = .ok (.getfield 25, 3) := by decide +kernel
theorem dX5_named_54 : decode cX5_named 54 = .ok (.dup_x1, 1) := by decide +kernel
theorem dX5_named_55 : decode cX5_named 55 = .ok (.iconst 1, 1) := by decide +kernel
theorem dX5_named_56 : decode cX5_named 56 = .ok (.iadd, 1) := by decide +kernel
theorem dX5_named_57 : decode cX5_named 57 = .ok (.putfield 25, 3) := by decide +kernel
theorem dX5_named_60 : decode cX5_named 60 = .ok (.ireturn, 1) := by decide +kernel
set_option maxRecDepth 20000 in
theorem ggX5_owns_X5_holds : GoodIn wsX5_owns wsX5_holds := goodIn_r _ [6, 7, 8, 9, 10, 11, 12] (by decide +kernel) (by decide +kernel)
set_option maxRecDepth 20000 in
theorem gX5_owns_X5_holds : GoodIn wsX5_owns (wsV RX5 34 RX5 yX5_holds wsX5_holds) := goodIn_app (goodIn_of _ (by decide +kernel)) ggX5_owns_X5_holds
theorem dX5_owns_0 : decode cX5_owns 0 = .ok (.aload_n 0, 1) := by decide +kernel
theorem dX5_owns_1 : decode cX5_owns 1 = .ok (.iload_n 1, 1) := by decide +kernel
theorem dX5_owns_2 : decode cX5_owns 2 = .ok (.invokevirtual 34, 3) := by decide +kernel
theorem dX5_owns_5 : decode cX5_owns 5 = .ok (.ifCond .eq 20, 3) := by decide +kernel
theorem dX5_owns_8 : decode cX5_owns 8 = .ok (.aload_n 0, 1) := by decide +kernel
theorem dX5_owns_9 : decode cX5_owns 9 = .ok (.getfield 15, 3) := by decide +kernel
theorem dX5_owns_12 : decode cX5_owns 12 = .ok (.iload_n 1, 1) := by decide +kernel
theorem dX5_owns_13 : decode cX5_owns 13 = .ok (.iaload, 1) := by decide +kernel
theorem dX5_owns_14 : decode cX5_owns 14 = .ok (.iload_n 2, 1) := by decide +kernel
theorem dX5_owns_15 : decode cX5_owns 15 = .ok (.ishr, 1) := by decide +kernel
theorem dX5_owns_16 : decode cX5_owns 16 = .ok (.iconst 1, 1) := by decide +kernel
theorem dX5_owns_17 : decode cX5_owns 17 = .ok (.iand, 1) := by decide +kernel
theorem dX5_owns_18 : decode cX5_owns 18 = .ok (.ifCond .eq 7, 3) := by decide +kernel
theorem dX5_owns_21 : decode cX5_owns 21 = .ok (.iconst 1, 1) := by decide +kernel
theorem dX5_owns_22 : decode cX5_owns 22 = .ok (.goto 4, 3) := by decide +kernel
theorem dX5_owns_25 : decode cX5_owns 25 = .ok (.iconst 0, 1) := by decide +kernel
theorem dX5_owns_26 : decode cX5_owns 26 = .ok (.ireturn, 1) := by decide +kernel
set_option maxRecDepth 20000 in
theorem ggX5_mark_X5_holds : GoodIn wsX5_mark wsX5_holds := goodIn_r _ [6, 7, 13, 14, 15, 16, 17] (by decide +kernel) (by decide +kernel)
set_option maxRecDepth 20000 in
theorem gX5_mark_X5_holds : GoodIn wsX5_mark (wsV RX5 34 RX5 yX5_holds wsX5_holds) := goodIn_app (goodIn_of _ (by decide +kernel)) ggX5_mark_X5_holds
set_option maxRecDepth 20000 in
theorem ggX5_mark_X5_knows : GoodIn wsX5_mark wsX5_knows := goodIn_r _ [11, 12, 13, 14, 15, 16, 17] (by decide +kernel) (by decide +kernel)
set_option maxRecDepth 20000 in
theorem gX5_mark_X5_knows : GoodIn wsX5_mark (wsV RX5 38 RX5 yX5_knows wsX5_knows) := goodIn_app (goodIn_of _ (by decide +kernel)) ggX5_mark_X5_knows
theorem dX5_mark_0 : decode cX5_mark 0 = .ok (.aload_n 0, 1) := by decide +kernel
theorem dX5_mark_1 : decode cX5_mark 1 = .ok (.iload_n 1, 1) := by decide +kernel
theorem dX5_mark_2 : decode cX5_mark 2 = .ok (.invokevirtual 34, 3) := by decide +kernel
theorem dX5_mark_5 : decode cX5_mark 5 = .ok (.ifCond .eq 11, 3) := by decide +kernel
theorem dX5_mark_8 : decode cX5_mark 8 = .ok (.aload_n 0, 1) := by decide +kernel
theorem dX5_mark_9 : decode cX5_mark 9 = .ok (.iload_n 2, 1) := by decide +kernel
theorem dX5_mark_10 : decode cX5_mark 10 = .ok (.invokevirtual 38, 3) := by decide +kernel
theorem dX5_mark_13 : decode cX5_mark 13 = .ok (.ifCond .ne 5, 3) := by decide +kernel
theorem dX5_mark_16 : decode cX5_mark 16 = .ok (.iconst 0, 1) := by decide +kernel
theorem dX5_mark_17 : decode cX5_mark 17 = .ok (.ireturn, 1) := by decide +kernel
theorem dX5_mark_18 : decode cX5_mark 18 = .ok (.aload_n 0, 1) := by decide +kernel
theorem dX5_mark_19 : decode cX5_mark 19 = .ok (.getfield 15, 3) := by decide +kernel
theorem dX5_mark_22 : decode cX5_mark 22 = .ok (.iload_n 1, 1) := by decide +kernel
theorem dX5_mark_23 : decode cX5_mark 23 = .ok (.iload_n 3, 1) := by decide +kernel
theorem dX5_mark_24 : decode cX5_mark 24 = .ok (.ifCond .eq 16, 3) := by decide +kernel
theorem dX5_mark_27 : decode cX5_mark 27 = .ok (.aload_n 0, 1) := by decide +kernel
theorem dX5_mark_28 : decode cX5_mark 28 = .ok (.getfield 15, 3) := by decide +kernel
theorem dX5_mark_31 : decode cX5_mark 31 = .ok (.iload_n 1, 1) := by decide +kernel
theorem dX5_mark_32 : decode cX5_mark 32 = .ok (.iaload, 1) := by decide +kernel
theorem dX5_mark_33 : decode cX5_mark 33 = .ok (.iconst 1, 1) := by decide +kernel
theorem dX5_mark_34 : decode cX5_mark 34 = .ok (.iload_n 2, 1) := by decide +kernel
theorem dX5_mark_35 : decode cX5_mark 35 = .ok (.ishl, 1) := by decide +kernel
theorem dX5_mark_36 : decode cX5_mark 36 = .ok (.ior, 1) := by decide +kernel
theorem dX5_mark_37 : decode cX5_mark 37 = .ok (.goto 15, 3) := by decide +kernel
theorem dX5_mark_40 : decode cX5_mark 40 = .ok (.aload_n 0, 1) := by decide +kernel
theorem dX5_mark_41 : decode cX5_mark 41 = .ok (.getfield 15, 3) := by decide +kernel
theorem dX5_mark_44 : decode cX5_mark 44 = .ok (.iload_n 1, 1) := by decide +kernel
theorem dX5_mark_45 : decode cX5_mark 45 = .ok (.iaload, 1) := by decide +kernel
theorem dX5_mark_46 : decode cX5_mark 46 = .ok (.iconst 1, 1) := by decide +kernel
theorem dX5_mark_47 : decode cX5_mark 47 = .ok (.iload_n 2, 1) := by decide +kernel
theorem dX5_mark_48 : decode cX5_mark 48 = .ok (.ishl, 1) := by decide +kernel
theorem dX5_mark_49 : decode cX5_mark 49 = .ok (.iconst (-1), 1) := by decide +kernel
theorem dX5_mark_50 : decode cX5_mark 50 = .ok (.ixor, 1) := by decide +kernel
theorem dX5_mark_51 : decode cX5_mark 51 = .ok (.iand, 1) := by decide +kernel
theorem dX5_mark_52 : decode cX5_mark 52 = .ok (.iastore, 1) := by decide +kernel
theorem dX5_mark_53 : decode cX5_mark 53 = .ok (.iconst 1, 1) := by decide +kernel
theorem dX5_mark_54 : decode cX5_mark 54 = .ok (.ireturn, 1) := by decide +kernel
set_option maxRecDepth 20000 in
theorem ggX5_owners_X5_owns : GoodIn wsX5_owners wsX5_owns := goodIn_r _ [6, 7, 8, 9, 10, 5, 11, 1, 12, 13, 14, 15, 16] (by decide +kernel) (by decide +kernel)
set_option maxRecDepth 20000 in
theorem gX5_owners_X5_owns : GoodIn wsX5_owners (wsV RX5 41 RX5 yX5_owns wsX5_owns) := goodIn_app (goodIn_of _ (by decide +kernel)) ggX5_owners_X5_owns
theorem dX5_owners_0 : decode cX5_owners 0 = .ok (.iconst 0, 1) := by decide +kernel
theorem dX5_owners_1 : decode cX5_owners 1 = .ok (.istore_n 2, 1) := by decide +kernel
theorem dX5_owners_2 : decode cX5_owners 2 = .ok (.iconst 0, 1) := by decide +kernel
theorem dX5_owners_3 : decode cX5_owners 3 = .ok (.istore_n 3, 1) := by decide +kernel
theorem dX5_owners_4 : decode cX5_owners 4 = .ok (.iload_n 3, 1) := by decide +kernel
theorem dX5_owners_5 : decode cX5_owners 5 = .ok (.aload_n 0, 1) := by decide +kernel
theorem dX5_owners_6 : decode cX5_owners 6 = .ok (.getfield 21, 3) := by decide +kernel
theorem dX5_owners_9 : decode cX5_owners 9 = .ok (.if_icmp .ge 24, 3) := by decide +kernel
theorem dX5_owners_12 : decode cX5_owners 12 = .ok (.aload_n 0, 1) := by decide +kernel
theorem dX5_owners_13 : decode cX5_owners 13 = .ok (.iload_n 3, 1) := by decide +kernel
theorem dX5_owners_14 : decode cX5_owners 14 = .ok (.iload_n 1, 1) := by decide +kernel
theorem dX5_owners_15 : decode cX5_owners 15 = .ok (.invokevirtual 41, 3) := by decide +kernel
theorem dX5_owners_18 : decode cX5_owners 18 = .ok (.ifCond .eq 9, 3) := by decide +kernel
theorem dX5_owners_21 : decode cX5_owners 21 = .ok (.iload_n 2, 1) := by decide +kernel
theorem dX5_owners_22 : decode cX5_owners 22 = .ok (.iconst 1, 1) := by decide +kernel
theorem dX5_owners_23 : decode cX5_owners 23 = .ok (.iload_n 3, 1) := by decide +kernel
theorem dX5_owners_24 : decode cX5_owners 24 = .ok (.ishl, 1) := by decide +kernel
theorem dX5_owners_25 : decode cX5_owners 25 = .ok (.ior, 1) := by decide +kernel
theorem dX5_owners_26 : decode cX5_owners 26 = .ok (.istore_n 2, 1) := by decide +kernel
theorem dX5_owners_27 : decode cX5_owners 27 = .ok (.iinc 3 1, 3) := by decide +kernel
theorem dX5_owners_30 : decode cX5_owners 30 = .ok (.goto (-26), 3) := by decide +kernel
theorem dX5_owners_33 : decode cX5_owners 33 = .ok (.iload_n 2, 1) := by decide +kernel
theorem dX5_owners_34 : decode cX5_owners 34 = .ok (.ireturn, 1) := by decide +kernel
set_option maxRecDepth 20000 in
theorem ggX5_common_X5_holds : GoodIn wsX5_common wsX5_holds := goodIn_r _ [6, 7, 15, 16, 17, 18, 19] (by decide +kernel) (by decide +kernel)
set_option maxRecDepth 20000 in
theorem gX5_common_X5_holds : GoodIn wsX5_common (wsV RX5 34 RX5 yX5_holds wsX5_holds) := goodIn_app (goodIn_of _ (by decide +kernel)) ggX5_common_X5_holds
set_option maxRecDepth 20000 in
theorem ggX5_common_J6_bitCount_0f7a4 : GoodIn wsX5_common wsJ6_bitCount_0f7a4 := goodIn_r _ [11, 12, 13, 14] (by decide +kernel) (by decide +kernel)
set_option maxRecDepth 20000 in
theorem gX5_common_J6_bitCount_0f7a4 : GoodIn wsX5_common (va_wsS RX5 45 yJ6_bitCount_0f7a4 wsJ6_bitCount_0f7a4) := goodIn_app (goodIn_of _ (by decide +kernel)) ggX5_common_J6_bitCount_0f7a4
theorem dX5_common_0 : decode cX5_common 0 = .ok (.aload_n 0, 1) := by decide +kernel
theorem dX5_common_1 : decode cX5_common 1 = .ok (.iload_n 1, 1) := by decide +kernel
theorem dX5_common_2 : decode cX5_common 2 = .ok (.invokevirtual 34, 3) := by decide +kernel
theorem dX5_common_5 : decode cX5_common 5 = .ok (.ifCond .eq 30, 3) := by decide +kernel
theorem dX5_common_8 : decode cX5_common 8 = .ok (.aload_n 0, 1) := by decide +kernel
theorem dX5_common_9 : decode cX5_common 9 = .ok (.iload_n 2, 1) := by decide +kernel
theorem dX5_common_10 : decode cX5_common 10 = .ok (.invokevirtual 34, 3) := by decide +kernel
theorem dX5_common_13 : decode cX5_common 13 = .ok (.ifCond .eq 22, 3) := by decide +kernel
theorem dX5_common_16 : decode cX5_common 16 = .ok (.aload_n 0, 1) := by decide +kernel
theorem dX5_common_17 : decode cX5_common 17 = .ok (.getfield 15, 3) := by decide +kernel
theorem dX5_common_20 : decode cX5_common 20 = .ok (.iload_n 1, 1) := by decide +kernel
theorem dX5_common_21 : decode cX5_common 21 = .ok (.iaload, 1) := by decide +kernel
theorem dX5_common_22 : decode cX5_common 22 = .ok (.aload_n 0, 1) := by decide +kernel
theorem dX5_common_23 : decode cX5_common 23 = .ok (.getfield 15, 3) := by decide +kernel
theorem dX5_common_26 : decode cX5_common 26 = .ok (.iload_n 2, 1) := by decide +kernel
theorem dX5_common_27 : decode cX5_common 27 = .ok (.iaload, 1) := by decide +kernel
theorem dX5_common_28 : decode cX5_common 28 = .ok (.iand, 1) := by decide +kernel
theorem dX5_common_29 : decode cX5_common 29 = .ok (.invokestatic 45, 3) := by decide +kernel
theorem dX5_common_32 : decode cX5_common 32 = .ok (.goto 4, 3) := by decide +kernel
theorem dX5_common_35 : decode cX5_common 35 = .ok (.iconst 0, 1) := by decide +kernel
theorem dX5_common_36 : decode cX5_common 36 = .ok (.ireturn, 1) := by decide +kernel
theorem dX5_peers_0 : decode cX5_peers 0 = .ok (.iconst 0, 1) := by decide +kernel
theorem dX5_peers_1 : decode cX5_peers 1 = .ok (.istore_n 2, 1) := by decide +kernel
theorem dX5_peers_2 : decode cX5_peers 2 = .ok (.iconst 0, 1) := by decide +kernel
theorem dX5_peers_3 : decode cX5_peers 3 = .ok (.istore_n 3, 1) := by decide +kernel
theorem dX5_peers_4 : decode cX5_peers 4 = .ok (.iload_n 3, 1) := by decide +kernel
theorem dX5_peers_5 : decode cX5_peers 5 = .ok (.aload_n 0, 1) := by decide +kernel
theorem dX5_peers_6 : decode cX5_peers 6 = .ok (.getfield 21, 3) := by decide +kernel
theorem dX5_peers_9 : decode cX5_peers 9 = .ok (.if_icmp .ge 48, 3) := by decide +kernel
theorem dX5_peers_12 : decode cX5_peers 12 = .ok (.aload_n 0, 1) := by decide +kernel
theorem dX5_peers_13 : decode cX5_peers 13 = .ok (.getfield 15, 3) := by decide +kernel
theorem dX5_peers_16 : decode cX5_peers 16 = .ok (.iload_n 3, 1) := by decide +kernel
theorem dX5_peers_17 : decode cX5_peers 17 = .ok (.iaload, 1) := by decide +kernel
theorem dX5_peers_18 : decode cX5_peers 18 = .ok (.aload_n 0, 1) := by decide +kernel
theorem dX5_peers_19 : decode cX5_peers 19 = .ok (.getfield 15, 3) := by decide +kernel
theorem dX5_peers_22 : decode cX5_peers 22 = .ok (.iload_n 1, 1) := by decide +kernel
theorem dX5_peers_23 : decode cX5_peers 23 = .ok (.iaload, 1) := by decide +kernel
theorem dX5_peers_24 : decode cX5_peers 24 = .ok (.if_icmp .ne 27, 3) := by decide +kernel
theorem dX5_peers_27 : decode cX5_peers 27 = .ok (.aload_n 0, 1) := by decide +kernel
theorem dX5_peers_28 : decode cX5_peers 28 = .ok (.getfield 9, 3) := by decide +kernel
theorem dX5_peers_31 : decode cX5_peers 31 = .ok (.iload_n 3, 1) := by decide +kernel
theorem dX5_peers_32 : decode cX5_peers 32 = .ok (.iaload, 1) := by decide +kernel
theorem dX5_peers_33 : decode cX5_peers 33 = .ok (.bipush 100, 2) := by decide +kernel
theorem dX5_peers_35 : decode cX5_peers 35 = .ok (.irem, 1) := by decide +kernel
theorem dX5_peers_36 : decode cX5_peers 36 = .ok (.aload_n 0, 1) := by decide +kernel
theorem dX5_peers_37 : decode cX5_peers 37 = .ok (.getfield 9, 3) := by decide +kernel
theorem dX5_peers_40 : decode cX5_peers 40 = .ok (.iload_n 1, 1) := by decide +kernel
theorem dX5_peers_41 : decode cX5_peers 41 = .ok (.iaload, 1) := by decide +kernel
theorem dX5_peers_42 : decode cX5_peers 42 = .ok (.bipush 100, 2) := by decide +kernel
theorem dX5_peers_44 : decode cX5_peers 44 = .ok (.irem, 1) := by decide +kernel
theorem dX5_peers_45 : decode cX5_peers 45 = .ok (.if_icmp .ne 6, 3) := by decide +kernel
theorem dX5_peers_48 : decode cX5_peers 48 = .ok (.iinc 2 1, 3) := by decide +kernel
theorem dX5_peers_51 : decode cX5_peers 51 = .ok (.iinc 3 1, 3) := by decide +kernel
theorem dX5_peers_54 : decode cX5_peers 54 = .ok (.goto (-50), 3) := by decide +kernel
theorem dX5_peers_57 : decode cX5_peers 57 = .ok (.iload_n 2, 1) := by decide +kernel
theorem dX5_peers_58 : decode cX5_peers 58 = .ok (.ireturn, 1) := by decide +kernel
set_option maxRecDepth 20000 in
theorem ggX5_friends_X5_common : GoodIn wsX5_friends wsX5_common := goodIn_r _ [6, 7, 8, 9, 10, 5, 11, 1, 12, 13, 14, 15, 16, 17, 18, 19, 20, 21, 22, 23] (by decide +kernel) (by decide +kernel)
set_option maxRecDepth 20000 in
theorem gX5_friends_X5_common : GoodIn wsX5_friends (wsV RX5 51 RX5 yX5_common wsX5_common) := goodIn_app (goodIn_of _ (by decide +kernel)) ggX5_friends_X5_common
theorem dX5_friends_0 : decode cX5_friends 0 = .ok (.iconst 0, 1) := by decide +kernel
theorem dX5_friends_1 : decode cX5_friends 1 = .ok (.istore_n 2, 1) := by decide +kernel
theorem dX5_friends_2 : decode cX5_friends 2 = .ok (.iconst 0, 1) := by decide +kernel
theorem dX5_friends_3 : decode cX5_friends 3 = .ok (.istore_n 3, 1) := by decide +kernel
theorem dX5_friends_4 : decode cX5_friends 4 = .ok (.iload_n 3, 1) := by decide +kernel
theorem dX5_friends_5 : decode cX5_friends 5 = .ok (.aload_n 0, 1) := by decide +kernel
theorem dX5_friends_6 : decode cX5_friends 6 = .ok (.getfield 21, 3) := by decide +kernel
theorem dX5_friends_9 : decode cX5_friends 9 = .ok (.if_icmp .ge 26, 3) := by decide +kernel
theorem dX5_friends_12 : decode cX5_friends 12 = .ok (.iload_n 3, 1) := by decide +kernel
theorem dX5_friends_13 : decode cX5_friends 13 = .ok (.iload_n 1, 1) := by decide +kernel
theorem dX5_friends_14 : decode cX5_friends 14 = .ok (.if_icmp .eq 15, 3) := by decide +kernel
theorem dX5_friends_17 : decode cX5_friends 17 = .ok (.aload_n 0, 1) := by decide +kernel
theorem dX5_friends_18 : decode cX5_friends 18 = .ok (.iload_n 3, 1) := by decide +kernel
theorem dX5_friends_19 : decode cX5_friends 19 = .ok (.iload_n 1, 1) := by decide +kernel
theorem dX5_friends_20 : decode cX5_friends 20 = .ok (.invokevirtual 51, 3) := by decide +kernel
theorem dX5_friends_23 : decode cX5_friends 23 = .ok (.ifCond .le 6, 3) := by decide +kernel
theorem dX5_friends_26 : decode cX5_friends 26 = .ok (.iinc 2 1, 3) := by decide +kernel
theorem dX5_friends_29 : decode cX5_friends 29 = .ok (.iinc 3 1, 3) := by decide +kernel
theorem dX5_friends_32 : decode cX5_friends 32 = .ok (.goto (-28), 3) := by decide +kernel
theorem dX5_friends_35 : decode cX5_friends 35 = .ok (.iload_n 2, 1) := by decide +kernel
theorem dX5_friends_36 : decode cX5_friends 36 = .ok (.ireturn, 1) := by decide +kernel
theorem dX5_bare_0 : decode cX5_bare 0 = .ok (.iconst 0, 1) := by decide +kernel
theorem dX5_bare_1 : decode cX5_bare 1 = .ok (.istore_n 1, 1) := by decide +kernel
theorem dX5_bare_2 : decode cX5_bare 2 = .ok (.iconst 0, 1) := by decide +kernel
theorem dX5_bare_3 : decode cX5_bare 3 = .ok (.istore_n 2, 1) := by decide +kernel
theorem dX5_bare_4 : decode cX5_bare 4 = .ok (.iload_n 2, 1) := by decide +kernel
theorem dX5_bare_5 : decode cX5_bare 5 = .ok (.aload_n 0, 1) := by decide +kernel
theorem dX5_bare_6 : decode cX5_bare 6 = .ok (.getfield 21, 3) := by decide +kernel
theorem dX5_bare_9 : decode cX5_bare 9 = .ok (.if_icmp .ge 21, 3) := by decide +kernel
theorem dX5_bare_12 : decode cX5_bare 12 = .ok (.aload_n 0, 1) := by decide +kernel
theorem dX5_bare_13 : decode cX5_bare 13 = .ok (.getfield 15, 3) := by decide +kernel
theorem dX5_bare_16 : decode cX5_bare 16 = .ok (.iload_n 2, 1) := by decide +kernel
theorem dX5_bare_17 : decode cX5_bare 17 = .ok (.iaload, 1) := by decide +kernel
theorem dX5_bare_18 : decode cX5_bare 18 = .ok (.ifCond .ne 6, 3) := by decide +kernel
theorem dX5_bare_21 : decode cX5_bare 21 = .ok (.iinc 1 1, 3) := by decide +kernel
theorem dX5_bare_24 : decode cX5_bare 24 = .ok (.iinc 2 1, 3) := by decide +kernel
theorem dX5_bare_27 : decode cX5_bare 27 = .ok (.goto (-23), 3) := by decide +kernel
theorem dX5_bare_30 : decode cX5_bare 30 = .ok (.iload_n 1, 1) := by decide +kernel
theorem dX5_bare_31 : decode cX5_bare 31 = .ok (.ireturn, 1) := by decide +kernel
set_option maxRecDepth 20000 in
theorem ggX5_parts_X5_partOf : GoodIn wsX5_parts wsX5_partOf := goodIn_r _ [6, 1, 7, 8, 9, 5, 10, 11, 12, 13, 14, 15, 16, 17, 18, 19, 20, 21, 22, 23, 24, 25, 26, 27, 28, 29, 30, 31] (by decide +kernel) (by decide +kernel)
set_option maxRecDepth 20000 in
theorem gX5_parts_X5_partOf : GoodIn wsX5_parts (wsV RX5 55 RX5 yX5_partOf wsX5_partOf) := goodIn_app (goodIn_of _ (by decide +kernel)) ggX5_parts_X5_partOf
theorem dX5_parts_0 : decode cX5_parts 0 = .ok (.iconst 0, 1) := by decide +kernel
theorem dX5_parts_1 : decode cX5_parts 1 = .ok (.istore_n 1, 1) := by decide +kernel
theorem dX5_parts_2 : decode cX5_parts 2 = .ok (.iconst 0, 1) := by decide +kernel
theorem dX5_parts_3 : decode cX5_parts 3 = .ok (.istore_n 2, 1) := by decide +kernel
theorem dX5_parts_4 : decode cX5_parts 4 = .ok (.iconst 0, 1) := by decide +kernel
theorem dX5_parts_5 : decode cX5_parts 5 = .ok (.istore_n 3, 1) := by decide +kernel
theorem dX5_parts_6 : decode cX5_parts 6 = .ok (.iload_n 3, 1) := by decide +kernel
theorem dX5_parts_7 : decode cX5_parts 7 = .ok (.aload_n 0, 1) := by decide +kernel
theorem dX5_parts_8 : decode cX5_parts 8 = .ok (.getfield 21, 3) := by decide +kernel
theorem dX5_parts_11 : decode cX5_parts 11 = .ok (.if_icmp .ge 28, 3) := by decide +kernel
theorem dX5_parts_14 : decode cX5_parts 14 = .ok (.iload_n 1, 1) := by decide +kernel
theorem dX5_parts_15 : decode cX5_parts 15 = .ok (.iload_n 3, 1) := by decide +kernel
theorem dX5_parts_16 : decode cX5_parts 16 = .ok (.ishr, 1) := by decide +kernel
theorem dX5_parts_17 : decode cX5_parts 17 = .ok (.iconst 1, 1) := by decide +kernel
theorem dX5_parts_18 : decode cX5_parts 18 = .ok (.iand, 1) := by decide +kernel
theorem dX5_parts_19 : decode cX5_parts 19 = .ok (.ifCond .ne 14, 3) := by decide +kernel
theorem dX5_parts_22 : decode cX5_parts 22 = .ok (.iload_n 1, 1) := by decide +kernel
theorem dX5_parts_23 : decode cX5_parts 23 = .ok (.aload_n 0, 1) := by decide +kernel
theorem dX5_parts_24 : decode cX5_parts 24 = .ok (.iload_n 3, 1) := by decide +kernel
theorem dX5_parts_25 : decode cX5_parts 25 = .ok (.invokevirtual 55, 3) := by decide +kernel
theorem dX5_parts_28 : decode cX5_parts 28 = .ok (.ior, 1) := by decide +kernel
theorem dX5_parts_29 : decode cX5_parts 29 = .ok (.istore_n 1, 1) := by decide +kernel
theorem dX5_parts_30 : decode cX5_parts 30 = .ok (.iinc 2 1, 3) := by decide +kernel
theorem dX5_parts_33 : decode cX5_parts 33 = .ok (.iinc 3 1, 3) := by decide +kernel
theorem dX5_parts_36 : decode cX5_parts 36 = .ok (.goto (-30), 3) := by decide +kernel
theorem dX5_parts_39 : decode cX5_parts 39 = .ok (.iload_n 2, 1) := by decide +kernel
theorem dX5_parts_40 : decode cX5_parts 40 = .ok (.ireturn, 1) := by decide +kernel
set_option maxRecDepth 20000 in
theorem ggX5_partOf_X5_sharesWithin : GoodIn wsX5_partOf wsX5_sharesWithin := goodIn_r _ [6, 1, 7, 8, 9, 5, 10, 11, 12, 13, 14, 15, 16, 17, 18, 19, 20, 21, 22, 23, 24, 25, 26, 27] (by decide +kernel) (by decide +kernel)
set_option maxRecDepth 20000 in
theorem gX5_partOf_X5_sharesWithin : GoodIn wsX5_partOf (wsV RX5 58 RX5 yX5_sharesWithin wsX5_sharesWithin) := goodIn_app (goodIn_of _ (by decide +kernel)) ggX5_partOf_X5_sharesWithin
theorem dX5_partOf_0 : decode cX5_partOf 0 = .ok (.iconst 1, 1) := by decide +kernel
theorem dX5_partOf_1 : decode cX5_partOf 1 = .ok (.iload_n 1, 1) := by decide +kernel
theorem dX5_partOf_2 : decode cX5_partOf 2 = .ok (.ishl, 1) := by decide +kernel
theorem dX5_partOf_3 : decode cX5_partOf 3 = .ok (.istore_n 2, 1) := by decide +kernel
theorem dX5_partOf_4 : decode cX5_partOf 4 = .ok (.iconst 0, 1) := by decide +kernel
theorem dX5_partOf_5 : decode cX5_partOf 5 = .ok (.istore_n 3, 1) := by decide +kernel
theorem dX5_partOf_6 : decode cX5_partOf 6 = .ok (.iload_n 3, 1) := by decide +kernel
theorem dX5_partOf_7 : decode cX5_partOf 7 = .ok (.aload_n 0, 1) := by decide +kernel
theorem dX5_partOf_8 : decode cX5_partOf 8 = .ok (.getfield 21, 3) := by decide +kernel
theorem dX5_partOf_11 : decode cX5_partOf 11 = .ok (.if_icmp .ge 44, 3) := by decide +kernel
theorem dX5_partOf_14 : decode cX5_partOf 14 = .ok (.iconst 0, 1) := by decide +kernel
theorem dX5_partOf_15 : decode cX5_partOf 15 = .ok (.istore 4, 2) := by decide +kernel
theorem dX5_partOf_17 : decode cX5_partOf 17 = .ok (.iload 4, 2) := by decide +kernel
theorem dX5_partOf_19 : decode cX5_partOf 19 = .ok (.aload_n 0, 1) := by decide +kernel
theorem dX5_partOf_20 : decode cX5_partOf 20 = .ok (.getfield 21, 3) := by decide +kernel
theorem dX5_partOf_23 : decode cX5_partOf 23 = .ok (.if_icmp .ge 26, 3) := by decide +kernel
theorem dX5_partOf_26 : decode cX5_partOf 26 = .ok (.aload_n 0, 1) := by decide +kernel
theorem dX5_partOf_27 : decode cX5_partOf 27 = .ok (.iload 4, 2) := by decide +kernel
theorem dX5_partOf_29 : decode cX5_partOf 29 = .ok (.iload_n 2, 1) := by decide +kernel
theorem dX5_partOf_30 : decode cX5_partOf 30 = .ok (.invokevirtual 58, 3) := by decide +kernel
theorem dX5_partOf_33 : decode cX5_partOf 33 = .ok (.ifCond .eq 10, 3) := by decide +kernel
theorem dX5_partOf_36 : decode cX5_partOf 36 = .ok (.iload_n 2, 1) := by decide +kernel
theorem dX5_partOf_37 : decode cX5_partOf 37 = .ok (.iconst 1, 1) := by decide +kernel
theorem dX5_partOf_38 : decode cX5_partOf 38 = .ok (.iload 4, 2) := by decide +kernel
theorem dX5_partOf_40 : decode cX5_partOf 40 = .ok (.ishl, 1) := by decide +kernel
theorem dX5_partOf_41 : decode cX5_partOf 41 = .ok (.ior, 1) := by decide +kernel
theorem dX5_partOf_42 : decode cX5_partOf 42 = .ok (.istore_n 2, 1) := by decide +kernel
theorem dX5_partOf_43 : decode cX5_partOf 43 = .ok (.iinc 4 1, 3) := by decide +kernel
theorem dX5_partOf_46 : decode cX5_partOf 46 = .ok (.goto (-29), 3) := by decide +kernel
theorem dX5_partOf_49 : decode cX5_partOf 49 = .ok (.iinc 3 1, 3) := by decide +kernel
theorem dX5_partOf_52 : decode cX5_partOf 52 = .ok (.goto (-46), 3) := by decide +kernel
theorem dX5_partOf_55 : decode cX5_partOf 55 = .ok (.iload_n 2, 1) := by decide +kernel
theorem dX5_partOf_56 : decode cX5_partOf 56 = .ok (.ireturn, 1) := by decide +kernel
set_option maxRecDepth 20000 in
theorem ggX5_sharesWithin_X5_common : GoodIn wsX5_sharesWithin wsX5_common := goodIn_r _ [6, 7, 8, 9, 10, 5, 11, 1, 12, 13, 14, 15, 16, 17, 18, 19, 20, 21, 22, 23] (by decide +kernel) (by decide +kernel)
set_option maxRecDepth 20000 in
theorem gX5_sharesWithin_X5_common : GoodIn wsX5_sharesWithin (wsV RX5 51 RX5 yX5_common wsX5_common) := goodIn_app (goodIn_of _ (by decide +kernel)) ggX5_sharesWithin_X5_common
theorem dX5_sharesWithin_0 : decode cX5_sharesWithin 0 = .ok (.iconst 0, 1) := by decide +kernel
theorem dX5_sharesWithin_1 : decode cX5_sharesWithin 1 = .ok (.istore_n 3, 1) := by decide +kernel
theorem dX5_sharesWithin_2 : decode cX5_sharesWithin 2 = .ok (.iload_n 3, 1) := by decide +kernel
theorem dX5_sharesWithin_3 : decode cX5_sharesWithin 3 = .ok (.aload_n 0, 1) := by decide +kernel
theorem dX5_sharesWithin_4 : decode cX5_sharesWithin 4 = .ok (.getfield 21, 3) := by decide +kernel
theorem dX5_sharesWithin_7 : decode cX5_sharesWithin 7 = .ok (.if_icmp .ge 28, 3) := by decide +kernel
theorem dX5_sharesWithin_10 : decode cX5_sharesWithin 10 = .ok (.iload_n 2, 1) := by decide +kernel
theorem dX5_sharesWithin_11 : decode cX5_sharesWithin 11 = .ok (.iload_n 3, 1) := by decide +kernel
theorem dX5_sharesWithin_12 : decode cX5_sharesWithin 12 = .ok (.ishr, 1) := by decide +kernel
theorem dX5_sharesWithin_13 : decode cX5_sharesWithin 13 = .ok (.iconst 1, 1) := by decide +kernel
theorem dX5_sharesWithin_14 : decode cX5_sharesWithin 14 = .ok (.iand, 1) := by decide +kernel
theorem dX5_sharesWithin_15 : decode cX5_sharesWithin 15 = .ok (.ifCond .eq 14, 3) := by decide +kernel
theorem dX5_sharesWithin_18 : decode cX5_sharesWithin 18 = .ok (.aload_n 0, 1) := by decide +kernel
theorem dX5_sharesWithin_19 : decode cX5_sharesWithin 19 = .ok (.iload_n 1, 1) := by decide +kernel
theorem dX5_sharesWithin_20 : decode cX5_sharesWithin 20 = .ok (.iload_n 3, 1) := by decide +kernel
theorem dX5_sharesWithin_21 : decode cX5_sharesWithin 21 = .ok (.invokevirtual 51, 3) := by decide +kernel
theorem dX5_sharesWithin_24 : decode cX5_sharesWithin 24 = .ok (.ifCond .le 5, 3) := by decide +kernel
theorem dX5_sharesWithin_27 : decode cX5_sharesWithin 27 = .ok (.iconst 1, 1) := by decide +kernel
theorem dX5_sharesWithin_28 : decode cX5_sharesWithin 28 = .ok (.ireturn, 1) := by decide +kernel
theorem dX5_sharesWithin_29 : decode cX5_sharesWithin 29 = .ok (.iinc 3 1, 3) := by decide +kernel
theorem dX5_sharesWithin_32 : decode cX5_sharesWithin 32 = .ok (.goto (-30), 3) := by decide +kernel
theorem dX5_sharesWithin_35 : decode cX5_sharesWithin 35 = .ok (.iconst 0, 1) := by decide +kernel
theorem dX5_sharesWithin_36 : decode cX5_sharesWithin 36 = .ok (.ireturn, 1) := by decide +kernel
set_option maxRecDepth 20000 in
theorem ggX5_nearest_X5_isNearer : GoodIn wsX5_nearest wsX5_isNearer := goodIn_r _ [6, 7, 8, 9, 10, 5, 11, 12, 13, 14, 15, 16, 1, 17, 18, 19, 20, 21, 22, 23, 24, 25, 26, 27, 28] (by decide +kernel) (by decide +kernel)
set_option maxRecDepth 20000 in
theorem gX5_nearest_X5_isNearer : GoodIn wsX5_nearest (wsV RX5 61 RX5 yX5_isNearer wsX5_isNearer) := goodIn_app (goodIn_of _ (by decide +kernel)) ggX5_nearest_X5_isNearer
theorem dX5_nearest_0 : decode cX5_nearest 0 = .ok (.iconst (-1), 1) := by decide +kernel
theorem dX5_nearest_1 : decode cX5_nearest 1 = .ok (.istore_n 3, 1) := by decide +kernel
theorem dX5_nearest_2 : decode cX5_nearest 2 = .ok (.iconst 0, 1) := by decide +kernel
theorem dX5_nearest_3 : decode cX5_nearest 3 = .ok (.istore 4, 2) := by decide +kernel
theorem dX5_nearest_5 : decode cX5_nearest 5 = .ok (.iload 4, 2) := by decide +kernel
theorem dX5_nearest_7 : decode cX5_nearest 7 = .ok (.aload_n 0, 1) := by decide +kernel
theorem dX5_nearest_8 : decode cX5_nearest 8 = .ok (.getfield 21, 3) := by decide +kernel
theorem dX5_nearest_11 : decode cX5_nearest 11 = .ok (.if_icmp .ge 36, 3) := by decide +kernel
theorem dX5_nearest_14 : decode cX5_nearest 14 = .ok (.iload_n 2, 1) := by decide +kernel
theorem dX5_nearest_15 : decode cX5_nearest 15 = .ok (.iload 4, 2) := by decide +kernel
theorem dX5_nearest_17 : decode cX5_nearest 17 = .ok (.ishr, 1) := by decide +kernel
theorem dX5_nearest_18 : decode cX5_nearest 18 = .ok (.iconst 1, 1) := by decide +kernel
theorem dX5_nearest_19 : decode cX5_nearest 19 = .ok (.iand, 1) := by decide +kernel
theorem dX5_nearest_20 : decode cX5_nearest 20 = .ok (.ifCond .ne 21, 3) := by decide +kernel
theorem dX5_nearest_23 : decode cX5_nearest 23 = .ok (.iload_n 3, 1) := by decide +kernel
theorem dX5_nearest_24 : decode cX5_nearest 24 = .ok (.ifCond .lt 14, 3) := by decide +kernel
theorem dX5_nearest_27 : decode cX5_nearest 27 = .ok (.aload_n 0, 1) := by decide +kernel
theorem dX5_nearest_28 : decode cX5_nearest 28 = .ok (.iload 4, 2) := by decide +kernel
theorem dX5_nearest_30 : decode cX5_nearest 30 = .ok (.iload_n 3, 1) := by decide +kernel
theorem dX5_nearest_31 : decode cX5_nearest 31 = .ok (.iload_n 1, 1) := by decide +kernel
theorem dX5_nearest_32 : decode cX5_nearest 32 = .ok (.invokevirtual 61, 3) := by decide +kernel
theorem dX5_nearest_35 : decode cX5_nearest 35 = .ok (.ifCond .eq 6, 3) := by decide +kernel
theorem dX5_nearest_38 : decode cX5_nearest 38 = .ok (.iload 4, 2) := by decide +kernel
theorem dX5_nearest_40 : decode cX5_nearest 40 = .ok (.istore_n 3, 1) := by decide +kernel
theorem dX5_nearest_41 : decode cX5_nearest 41 = .ok (.iinc 4 1, 3) := by decide +kernel
theorem dX5_nearest_44 : decode cX5_nearest 44 = .ok (.goto (-39), 3) := by decide +kernel
theorem dX5_nearest_47 : decode cX5_nearest 47 = .ok (.iload_n 3, 1) := by decide +kernel
theorem dX5_nearest_48 : decode cX5_nearest 48 = .ok (.ireturn, 1) := by decide +kernel
set_option maxRecDepth 20000 in
theorem ggX5_isNearer_X5_common : GoodIn wsX5_isNearer wsX5_common := goodIn_r _ [6, 7, 8, 9, 10, 5, 11, 12, 13, 14, 15, 16, 17, 18, 19, 20, 21, 22, 23, 24] (by decide +kernel) (by decide +kernel)
set_option maxRecDepth 20000 in
theorem gX5_isNearer_X5_common : GoodIn wsX5_isNearer (wsV RX5 51 RX5 yX5_common wsX5_common) := goodIn_app (goodIn_of _ (by decide +kernel)) ggX5_isNearer_X5_common
theorem dX5_isNearer_0 : decode cX5_isNearer 0 = .ok (.aload_n 0, 1) := by decide +kernel
theorem dX5_isNearer_1 : decode cX5_isNearer 1 = .ok (.iload_n 1, 1) := by decide +kernel
theorem dX5_isNearer_2 : decode cX5_isNearer 2 = .ok (.iload_n 3, 1) := by decide +kernel
theorem dX5_isNearer_3 : decode cX5_isNearer 3 = .ok (.invokevirtual 51, 3) := by decide +kernel
theorem dX5_isNearer_6 : decode cX5_isNearer 6 = .ok (.aload_n 0, 1) := by decide +kernel
theorem dX5_isNearer_7 : decode cX5_isNearer 7 = .ok (.iload_n 2, 1) := by decide +kernel
theorem dX5_isNearer_8 : decode cX5_isNearer 8 = .ok (.iload_n 3, 1) := by decide +kernel
theorem dX5_isNearer_9 : decode cX5_isNearer 9 = .ok (.invokevirtual 51, 3) := by decide +kernel
theorem dX5_isNearer_12 : decode cX5_isNearer 12 = .ok (.isub, 1) := by decide +kernel
theorem dX5_isNearer_13 : decode cX5_isNearer 13 = .ok (.istore 4, 2) := by decide +kernel
theorem dX5_isNearer_15 : decode cX5_isNearer 15 = .ok (.iload 4, 2) := by decide +kernel
theorem dX5_isNearer_17 : decode cX5_isNearer 17 = .ok (.ifCond .gt 23, 3) := by decide +kernel
theorem dX5_isNearer_20 : decode cX5_isNearer 20 = .ok (.iload 4, 2) := by decide +kernel
theorem dX5_isNearer_22 : decode cX5_isNearer 22 = .ok (.ifCond .ne 22, 3) := by decide +kernel
theorem dX5_isNearer_25 : decode cX5_isNearer 25 = .ok (.aload_n 0, 1) := by decide +kernel
theorem dX5_isNearer_26 : decode cX5_isNearer 26 = .ok (.getfield 9, 3) := by decide +kernel
theorem dX5_isNearer_29 : decode cX5_isNearer 29 = .ok (.iload_n 1, 1) := by decide +kernel
theorem dX5_isNearer_30 : decode cX5_isNearer 30 = .ok (.iaload, 1) := by decide +kernel
theorem dX5_isNearer_31 : decode cX5_isNearer 31 = .ok (.aload_n 0, 1) := by decide +kernel
theorem dX5_isNearer_32 : decode cX5_isNearer 32 = .ok (.getfield 9, 3) := by decide +kernel
theorem dX5_isNearer_35 : decode cX5_isNearer 35 = .ok (.iload_n 2, 1) := by decide +kernel
theorem dX5_isNearer_36 : decode cX5_isNearer 36 = .ok (.iaload, 1) := by decide +kernel
theorem dX5_isNearer_37 : decode cX5_isNearer 37 = .ok (.if_icmp .ge 7, 3) := by decide +kernel
theorem dX5_isNearer_40 : decode cX5_isNearer 40 = .ok (.iconst 1, 1) := by decide +kernel
theorem dX5_isNearer_41 : decode cX5_isNearer 41 = .ok (.goto 4, 3) := by decide +kernel
theorem dX5_isNearer_44 : decode cX5_isNearer 44 = .ok (.iconst 0, 1) := by decide +kernel
theorem dX5_isNearer_45 : decode cX5_isNearer 45 = .ok (.ireturn, 1) := by decide +kernel
set_option maxRecDepth 20000 in
theorem ggX5_foremost_X5_weight : GoodIn wsX5_foremost wsX5_weight := goodIn_r _ [6, 7, 8, 9, 10, 11, 12, 13, 14, 15, 16, 17, 18, 5, 19, 1, 20, 21, 22, 23, 24, 25, 26, 27, 28, 29, 30, 31, 32] (by decide +kernel) (by decide +kernel)
set_option maxRecDepth 20000 in
theorem gX5_foremost_X5_weight : GoodIn wsX5_foremost (wsV RX5 65 RX5 yX5_weight wsX5_weight) := goodIn_app (goodIn_of _ (by decide +kernel)) ggX5_foremost_X5_weight
theorem dX5_foremost_0 : decode cX5_foremost 0 = .ok (.iconst (-1), 1) := by decide +kernel
theorem dX5_foremost_1 : decode cX5_foremost 1 = .ok (.istore_n 3, 1) := by decide +kernel
theorem dX5_foremost_2 : decode cX5_foremost 2 = .ok (.iconst 0, 1) := by decide +kernel
theorem dX5_foremost_3 : decode cX5_foremost 3 = .ok (.istore 4, 2) := by decide +kernel
theorem dX5_foremost_5 : decode cX5_foremost 5 = .ok (.iconst 0, 1) := by decide +kernel
theorem dX5_foremost_6 : decode cX5_foremost 6 = .ok (.istore 5, 2) := by decide +kernel
theorem dX5_foremost_8 : decode cX5_foremost 8 = .ok (.iload 5, 2) := by decide +kernel
theorem dX5_foremost_10 : decode cX5_foremost 10 = .ok (.aload_n 0, 1) := by decide +kernel
theorem dX5_foremost_11 : decode cX5_foremost 11 = .ok (.getfield 21, 3) := by decide +kernel
theorem dX5_foremost_14 : decode cX5_foremost 14 = .ok (.if_icmp .ge 45, 3) := by decide +kernel
theorem dX5_foremost_17 : decode cX5_foremost 17 = .ok (.iload_n 2, 1) := by decide +kernel
theorem dX5_foremost_18 : decode cX5_foremost 18 = .ok (.iload 5, 2) := by decide +kernel
theorem dX5_foremost_20 : decode cX5_foremost 20 = .ok (.ishr, 1) := by decide +kernel
theorem dX5_foremost_21 : decode cX5_foremost 21 = .ok (.iconst 1, 1) := by decide +kernel
theorem dX5_foremost_22 : decode cX5_foremost 22 = .ok (.iand, 1) := by decide +kernel
theorem dX5_foremost_23 : decode cX5_foremost 23 = .ok (.ifCond .ne 30, 3) := by decide +kernel
theorem dX5_foremost_26 : decode cX5_foremost 26 = .ok (.aload_n 0, 1) := by decide +kernel
theorem dX5_foremost_27 : decode cX5_foremost 27 = .ok (.iload 5, 2) := by decide +kernel
theorem dX5_foremost_29 : decode cX5_foremost 29 = .ok (.iload_n 1, 1) := by decide +kernel
theorem dX5_foremost_30 : decode cX5_foremost 30 = .ok (.invokevirtual 65, 3) := by decide +kernel
theorem dX5_foremost_33 : decode cX5_foremost 33 = .ok (.istore 6, 2) := by decide +kernel
theorem dX5_foremost_35 : decode cX5_foremost 35 = .ok (.iload_n 3, 1) := by decide +kernel
theorem dX5_foremost_36 : decode cX5_foremost 36 = .ok (.ifCond .lt 10, 3) := by decide +kernel
theorem dX5_foremost_39 : decode cX5_foremost 39 = .ok (.iload 6, 2) := by decide +kernel
theorem dX5_foremost_41 : decode cX5_foremost 41 = .ok (.iload 4, 2) := by decide +kernel
theorem dX5_foremost_43 : decode cX5_foremost 43 = .ok (.if_icmp .le 10, 3) := by decide +kernel
theorem dX5_foremost_46 : decode cX5_foremost 46 = .ok (.iload 5, 2) := by decide +kernel
theorem dX5_foremost_48 : decode cX5_foremost 48 = .ok (.istore_n 3, 1) := by decide +kernel
theorem dX5_foremost_49 : decode cX5_foremost 49 = .ok (.iload 6, 2) := by decide +kernel
theorem dX5_foremost_51 : decode cX5_foremost 51 = .ok (.istore 4, 2) := by decide +kernel
theorem dX5_foremost_53 : decode cX5_foremost 53 = .ok (.iinc 5 1, 3) := by decide +kernel
theorem dX5_foremost_56 : decode cX5_foremost 56 = .ok (.goto (-48), 3) := by decide +kernel
theorem dX5_foremost_59 : decode cX5_foremost 59 = .ok (.iload_n 3, 1) := by decide +kernel
theorem dX5_foremost_60 : decode cX5_foremost 60 = .ok (.ireturn, 1) := by decide +kernel
set_option maxRecDepth 20000 in
theorem ggX5_weight_J6_bitCount_0f7a4 : GoodIn wsX5_weight wsJ6_bitCount_0f7a4 := goodIn_r _ [6, 7, 8, 9] (by decide +kernel) (by decide +kernel)
set_option maxRecDepth 20000 in
theorem gX5_weight_J6_bitCount_0f7a4 : GoodIn wsX5_weight (va_wsS RX5 45 yJ6_bitCount_0f7a4 wsJ6_bitCount_0f7a4) := goodIn_app (goodIn_of _ (by decide +kernel)) ggX5_weight_J6_bitCount_0f7a4
set_option maxRecDepth 20000 in
theorem ggX5_weight_X5_friends : GoodIn wsX5_weight wsX5_friends := goodIn_r _ [14, 15, 16, 17, 18, 13, 19, 2, 20, 21, 22, 23, 3, 4, 5, 6, 7, 8, 9, 24, 25, 26, 27, 28] (by decide +kernel) (by decide +kernel)
set_option maxRecDepth 20000 in
theorem gX5_weight_X5_friends : GoodIn wsX5_weight (wsV RX5 68 RX5 yX5_friends wsX5_friends) := goodIn_app (goodIn_of _ (by decide +kernel)) ggX5_weight_X5_friends
theorem dX5_weight_0 : decode cX5_weight 0 = .ok (.iload_n 2, 1) := by decide +kernel
theorem dX5_weight_1 : decode cX5_weight 1 = .ok (.tableswitch 51 0 2 #[27, 35, 45], 27) := by decide +kernel
theorem dX5_weight_28 : decode cX5_weight 28 = .ok (.aload_n 0, 1) := by decide +kernel
theorem dX5_weight_29 : decode cX5_weight 29 = .ok (.getfield 9, 3) := by decide +kernel
theorem dX5_weight_32 : decode cX5_weight 32 = .ok (.iload_n 1, 1) := by decide +kernel
theorem dX5_weight_33 : decode cX5_weight 33 = .ok (.iaload, 1) := by decide +kernel
theorem dX5_weight_34 : decode cX5_weight 34 = .ok (.ineg, 1) := by decide +kernel
theorem dX5_weight_35 : decode cX5_weight 35 = .ok (.ireturn, 1) := by decide +kernel
theorem dX5_weight_36 : decode cX5_weight 36 = .ok (.aload_n 0, 1) := by decide +kernel
theorem dX5_weight_37 : decode cX5_weight 37 = .ok (.getfield 15, 3) := by decide +kernel
theorem dX5_weight_40 : decode cX5_weight 40 = .ok (.iload_n 1, 1) := by decide +kernel
theorem dX5_weight_41 : decode cX5_weight 41 = .ok (.iaload, 1) := by decide +kernel
theorem dX5_weight_42 : decode cX5_weight 42 = .ok (.invokestatic 45, 3) := by decide +kernel
theorem dX5_weight_45 : decode cX5_weight 45 = .ok (.ireturn, 1) := by decide +kernel
theorem dX5_weight_46 : decode cX5_weight 46 = .ok (.aload_n 0, 1) := by decide +kernel
theorem dX5_weight_47 : decode cX5_weight 47 = .ok (.iload_n 1, 1) := by decide +kernel
theorem dX5_weight_48 : decode cX5_weight 48 = .ok (.invokevirtual 68, 3) := by decide +kernel
theorem dX5_weight_51 : decode cX5_weight 51 = .ok (.ireturn, 1) := by decide +kernel
theorem dX5_weight_52 : decode cX5_weight 52 = .ok (.aload_n 0, 1) := by decide +kernel
theorem dX5_weight_53 : decode cX5_weight 53 = .ok (.getfield 15, 3) := by decide +kernel
theorem dX5_weight_56 : decode cX5_weight 56 = .ok (.iload_n 1, 1) := by decide +kernel
theorem dX5_weight_57 : decode cX5_weight 57 = .ok (.iaload, 1) := by decide +kernel
theorem dX5_weight_58 : decode cX5_weight 58 = .ok (.ineg, 1) := by decide +kernel
theorem dX5_weight_59 : decode cX5_weight 59 = .ok (.ireturn, 1) := by decide +kernel
set_option maxRecDepth 20000 in
theorem ggX5_typeBehind_X5_owns : GoodIn wsX5_typeBehind wsX5_owns := goodIn_r _ [7, 8, 9, 10, 11, 6, 12, 13, 14, 15, 16, 17, 18] (by decide +kernel) (by decide +kernel)
set_option maxRecDepth 20000 in
theorem gX5_typeBehind_X5_owns : GoodIn wsX5_typeBehind (wsV RX5 41 RX5 yX5_owns wsX5_owns) := goodIn_app (goodIn_of _ (by decide +kernel)) ggX5_typeBehind_X5_owns
theorem dX5_typeBehind_0 : decode cX5_typeBehind 0 = .ok (.iconst (-1), 1) := by decide +kernel
theorem dX5_typeBehind_1 : decode cX5_typeBehind 1 = .ok (.istore_n 3, 1) := by decide +kernel
theorem dX5_typeBehind_2 : decode cX5_typeBehind 2 = .ok (.iconst 0, 1) := by decide +kernel
theorem dX5_typeBehind_3 : decode cX5_typeBehind 3 = .ok (.istore 4, 2) := by decide +kernel
theorem dX5_typeBehind_5 : decode cX5_typeBehind 5 = .ok (.iload 4, 2) := by decide +kernel
theorem dX5_typeBehind_7 : decode cX5_typeBehind 7 = .ok (.aload_n 0, 1) := by decide +kernel
theorem dX5_typeBehind_8 : decode cX5_typeBehind 8 = .ok (.getfield 25, 3) := by decide +kernel
theorem dX5_typeBehind_11 : decode cX5_typeBehind 11 = .ok (.if_icmp .ge 53, 3) := by decide +kernel
theorem dX5_typeBehind_14 : decode cX5_typeBehind 14 = .ok (.aload_n 0, 1) := by decide +kernel
theorem dX5_typeBehind_15 : decode cX5_typeBehind 15 = .ok (.iload_n 1, 1) := by decide +kernel
theorem dX5_typeBehind_16 : decode cX5_typeBehind 16 = .ok (.iload 4, 2) := by decide +kernel
theorem dX5_typeBehind_18 : decode cX5_typeBehind 18 = .ok (.invokevirtual 41, 3) := by decide +kernel
theorem dX5_typeBehind_21 : decode cX5_typeBehind 21 = .ok (.ifCond .eq 37, 3) := by decide +kernel
theorem dX5_typeBehind_24 : decode cX5_typeBehind 24 = .ok (.aload_n 0, 1) := by decide +kernel
theorem dX5_typeBehind_25 : decode cX5_typeBehind 25 = .ok (.getfield 18, 3) := by decide +kernel
theorem dX5_typeBehind_28 : decode cX5_typeBehind 28 = .ok (.iload 4, 2) := by decide +kernel
theorem dX5_typeBehind_30 : decode cX5_typeBehind 30 = .ok (.iaload, 1) := by decide +kernel
theorem dX5_typeBehind_31 : decode cX5_typeBehind 31 = .ok (.iload_n 2, 1) := by decide +kernel
theorem dX5_typeBehind_32 : decode cX5_typeBehind 32 = .ok (.if_icmp .le 26, 3) := by decide +kernel
theorem dX5_typeBehind_35 : decode cX5_typeBehind 35 = .ok (.iload_n 3, 1) := by decide +kernel
theorem dX5_typeBehind_36 : decode cX5_typeBehind 36 = .ok (.ifCond .lt 19, 3) := by decide +kernel
theorem dX5_typeBehind_39 : decode cX5_typeBehind 39 = .ok (.aload_n 0, 1) := by decide +kernel
theorem dX5_typeBehind_40 : decode cX5_typeBehind 40 = .ok (.getfield 18, 3) := by decide +kernel
theorem dX5_typeBehind_43 : decode cX5_typeBehind 43 = .ok (.iload 4, 2) := by decide +kernel
theorem dX5_typeBehind_45 : decode cX5_typeBehind 45 = .ok (.iaload, 1) := by decide +kernel
theorem dX5_typeBehind_46 : decode cX5_typeBehind 46 = .ok (.aload_n 0, 1) := by decide +kernel
theorem dX5_typeBehind_47 : decode cX5_typeBehind 47 = .ok (.getfield 18, 3) := by decide +kernel
theorem dX5_typeBehind_50 : decode cX5_typeBehind 50 = .ok (.iload_n 3, 1) := by decide +kernel
theorem dX5_typeBehind_51 : decode cX5_typeBehind 51 = .ok (.iaload, 1) := by decide +kernel
theorem dX5_typeBehind_52 : decode cX5_typeBehind 52 = .ok (.if_icmp .ge 6, 3) := by decide +kernel
theorem dX5_typeBehind_55 : decode cX5_typeBehind 55 = .ok (.iload 4, 2) := by decide +kernel
theorem dX5_typeBehind_57 : decode cX5_typeBehind 57 = .ok (.istore_n 3, 1) := by decide +kernel
theorem dX5_typeBehind_58 : decode cX5_typeBehind 58 = .ok (.iinc 4 1, 3) := by decide +kernel
theorem dX5_typeBehind_61 : decode cX5_typeBehind 61 = .ok (.goto (-56), 3) := by decide +kernel
theorem dX5_typeBehind_64 : decode cX5_typeBehind 64 = .ok (.iload_n 3, 1) := by decide +kernel
theorem dX5_typeBehind_65 : decode cX5_typeBehind 65 = .ok (.ireturn, 1) := by decide +kernel
theorem dX6_init_0 : decode cX6_init 0 = .ok (.aload_n 0, 1) := by decide +kernel
theorem dX6_init_1 : decode cX6_init 1 = .ok (.invokespecial 3, 3) := by decide +kernel
theorem dX6_init_4 : decode cX6_init 4 = .ok (.aload_n 0, 1) := by decide +kernel
theorem dX6_init_5 : decode cX6_init 5 = .ok (.sipush 128, 3) := by decide +kernel
theorem dX6_init_8 : decode cX6_init 8 = .ok (.bipush 41, 2) := by decide +kernel
theorem dX6_init_10 : decode cX6_init 10 = .ok (.multianewarray 9 2, 4) := by decide +kernel
theorem dX6_init_14 : decode cX6_init 14 = .ok (.putfield 11, 3) := by decide +kernel
theorem dX6_init_17 : decode cX6_init 17 = .ok (.return_, 1) := by decide +kernel
set_option maxRecDepth 20000 in
theorem ggX6_within_X6_settle : GoodIn wsX6_within wsX6_settle := goodIn_r _ [7, 2, 1, 8, 9, 10, 11, 12, 13, 14, 15, 16, 17, 18, 19, 20, 21, 22, 23, 24, 25, 26, 27, 28, 36, 29, 30, 31, 32, 33, 34, 35] (by decide +kernel) (by decide +kernel)
set_option maxRecDepth 20000 in
theorem gX6_within_X6_settle : GoodIn wsX6_within (wsV RX6 22 RX6 yX6_settle wsX6_settle) := goodIn_app (goodIn_of _ (by decide +kernel)) ggX6_within_X6_settle
theorem dX6_within_0 : decode cX6_within 0 = .ok (.aload_n 1, 1) := by decide +kernel
theorem dX6_within_1 : decode cX6_within 1 = .ok (.getfield 16, 3) := by decide +kernel
theorem dX6_within_4 : decode cX6_within 4 = .ok (.istore_n 3, 1) := by decide +kernel
theorem dX6_within_5 : decode cX6_within 5 = .ok (.iload_n 3, 1) := by decide +kernel
theorem dX6_within_6 : decode cX6_within 6 = .ok (.ifCond .lt 15, 3) := by decide +kernel
theorem dX6_within_9 : decode cX6_within 9 = .ok (.aload_n 0, 1) := by decide +kernel
theorem dX6_within_10 : decode cX6_within 10 = .ok (.aload_n 1, 1) := by decide +kernel
theorem dX6_within_11 : decode cX6_within 11 = .ok (.iload_n 3, 1) := by decide +kernel
theorem dX6_within_12 : decode cX6_within 12 = .ok (.invokevirtual 22, 3) := by decide +kernel
theorem dX6_within_15 : decode cX6_within 15 = .ok (.iinc 3 (-1), 3) := by decide +kernel
theorem dX6_within_18 : decode cX6_within 18 = .ok (.goto (-13), 3) := by decide +kernel
theorem dX6_within_21 : decode cX6_within 21 = .ok (.iconst 0, 1) := by decide +kernel
theorem dX6_within_22 : decode cX6_within 22 = .ok (.istore_n 3, 1) := by decide +kernel
theorem dX6_within_23 : decode cX6_within 23 = .ok (.iconst 0, 1) := by decide +kernel
theorem dX6_within_24 : decode cX6_within 24 = .ok (.istore 4, 2) := by decide +kernel
theorem dX6_within_26 : decode cX6_within 26 = .ok (.iload 4, 2) := by decide +kernel
theorem dX6_within_28 : decode cX6_within 28 = .ok (.bipush 40, 2) := by decide +kernel
theorem dX6_within_30 : decode cX6_within 30 = .ok (.if_icmp .gt 27, 3) := by decide +kernel
theorem dX6_within_33 : decode cX6_within 33 = .ok (.iload 4, 2) := by decide +kernel
theorem dX6_within_35 : decode cX6_within 35 = .ok (.iload_n 2, 1) := by decide +kernel
theorem dX6_within_36 : decode cX6_within 36 = .ok (.if_icmp .gt 21, 3) := by decide +kernel
theorem dX6_within_39 : decode cX6_within 39 = .ok (.iload_n 3, 1) := by decide +kernel
theorem dX6_within_40 : decode cX6_within 40 = .ok (.aload_n 0, 1) := by decide +kernel
theorem dX6_within_41 : decode cX6_within 41 = .ok (.getfield 11, 3) := by decide +kernel
theorem dX6_within_44 : decode cX6_within 44 = .ok (.iconst 0, 1) := by decide +kernel
theorem dX6_within_45 : decode cX6_within 45 = .ok (.aaload, 1) := by decide +kernel
theorem dX6_within_46 : decode cX6_within 46 = .ok (.iload 4, 2) := by decide +kernel
theorem dX6_within_48 : decode cX6_within 48 = .ok (.iaload, 1) := by decide +kernel
theorem dX6_within_49 : decode cX6_within 49 = .ok (.iadd, 1) := by decide +kernel
theorem dX6_within_50 : decode cX6_within 50 = .ok (.istore_n 3, 1) := by decide +kernel
theorem dX6_within_51 : decode cX6_within 51 = .ok (.iinc 4 1, 3) := by decide +kernel
theorem dX6_within_54 : decode cX6_within 54 = .ok (.goto (-28), 3) := by decide +kernel
theorem dX6_within_57 : decode cX6_within 57 = .ok (.iload_n 3, 1) := by decide +kernel
theorem dX6_within_58 : decode cX6_within 58 = .ok (.ireturn, 1) := by decide +kernel
set_option maxRecDepth 20000 in
theorem ggX6_settle_X3_mayFollow : GoodIn wsX6_settle wsX3_mayFollow := goodIn_r _ [7, 8, 9, 10, 25, 26, 27, 28, 29, 30, 31] (by decide +kernel) (by decide +kernel)
set_option maxRecDepth 20000 in
theorem gX6_settle_X3_mayFollow : GoodIn wsX6_settle (wsV RX6 26 RX3 yX3_mayFollow wsX3_mayFollow) := goodIn_app (goodIn_of _ (by decide +kernel)) ggX6_settle_X3_mayFollow
set_option maxRecDepth 20000 in
theorem ggX6_settle_X3_toll : GoodIn wsX6_settle wsX3_toll := goodIn_r _ [14, 15, 8, 16, 17, 18, 19, 20, 21, 22, 23, 25, 26, 27, 28, 29, 30, 31] (by decide +kernel) (by decide +kernel)
set_option maxRecDepth 20000 in
theorem gX6_settle_X3_toll : GoodIn wsX6_settle (wsV RX6 30 RX3 yX3_toll wsX3_toll) := goodIn_app (goodIn_of _ (by decide +kernel)) ggX6_settle_X3_toll
theorem dX6_settle_0 : decode cX6_settle 0 = .ok (.aload_n 0, 1) := by decide +kernel
theorem dX6_settle_1 : decode cX6_settle 1 = .ok (.getfield 11, 3) := by decide +kernel
theorem dX6_settle_4 : decode cX6_settle 4 = .ok (.iload_n 2, 1) := by decide +kernel
theorem dX6_settle_5 : decode cX6_settle 5 = .ok (.aaload, 1) := by decide +kernel
theorem dX6_settle_6 : decode cX6_settle 6 = .ok (.astore_n 3, 1) := by decide +kernel
theorem dX6_settle_7 : decode cX6_settle 7 = .ok (.iconst 0, 1) := by decide +kernel
theorem dX6_settle_8 : decode cX6_settle 8 = .ok (.istore 4, 2) := by decide +kernel
theorem dX6_settle_10 : decode cX6_settle 10 = .ok (.iload 4, 2) := by decide +kernel
theorem dX6_settle_12 : decode cX6_settle 12 = .ok (.bipush 40, 2) := by decide +kernel
theorem dX6_settle_14 : decode cX6_settle 14 = .ok (.if_icmp .gt 14, 3) := by decide +kernel
theorem dX6_settle_17 : decode cX6_settle 17 = .ok (.aload_n 3, 1) := by decide +kernel
theorem dX6_settle_18 : decode cX6_settle 18 = .ok (.iload 4, 2) := by decide +kernel
theorem dX6_settle_20 : decode cX6_settle 20 = .ok (.iconst 0, 1) := by decide +kernel
theorem dX6_settle_21 : decode cX6_settle 21 = .ok (.iastore, 1) := by decide +kernel
theorem dX6_settle_22 : decode cX6_settle 22 = .ok (.iinc 4 1, 3) := by decide +kernel
theorem dX6_settle_25 : decode cX6_settle 25 = .ok (.goto (-15), 3) := by decide +kernel
theorem dX6_settle_28 : decode cX6_settle 28 = .ok (.iload_n 2, 1) := by decide +kernel
theorem dX6_settle_29 : decode cX6_settle 29 = .ok (.aload_n 1, 1) := by decide +kernel
theorem dX6_settle_30 : decode cX6_settle 30 = .ok (.getfield 16, 3) := by decide +kernel
theorem dX6_settle_33 : decode cX6_settle 33 = .ok (.if_icmp .ne 7, 3) := by decide +kernel
theorem dX6_settle_36 : decode cX6_settle 36 = .ok (.aload_n 3, 1) := by decide +kernel
theorem dX6_settle_37 : decode cX6_settle 37 = .ok (.iconst 0, 1) := by decide +kernel
theorem dX6_settle_38 : decode cX6_settle 38 = .ok (.iconst 1, 1) := by decide +kernel
theorem dX6_settle_39 : decode cX6_settle 39 = .ok (.iastore, 1) := by decide +kernel
theorem dX6_settle_40 : decode cX6_settle 40 = .ok (.iconst 0, 1) := by decide +kernel
theorem dX6_settle_41 : decode cX6_settle 41 = .ok (.istore 4, 2) := by decide +kernel
theorem dX6_settle_43 : decode cX6_settle 43 = .ok (.iload 4, 2) := by decide +kernel
theorem dX6_settle_45 : decode cX6_settle 45 = .ok (.bipush 7, 2) := by decide +kernel
theorem dX6_settle_47 : decode cX6_settle 47 = .ok (.if_icmp .ge 73, 3) := by decide +kernel
theorem dX6_settle_50 : decode cX6_settle 50 = .ok (.aload_n 1, 1) := by decide +kernel
theorem dX6_settle_51 : decode cX6_settle 51 = .ok (.iload_n 2, 1) := by decide +kernel
theorem dX6_settle_52 : decode cX6_settle 52 = .ok (.iload 4, 2) := by decide +kernel
theorem dX6_settle_54 : decode cX6_settle 54 = .ok (.invokevirtual 26, 3) := by decide +kernel
theorem dX6_settle_57 : decode cX6_settle 57 = .ok (.ifCond .eq 57, 3) := by decide +kernel
theorem dX6_settle_60 : decode cX6_settle 60 = .ok (.aload_n 1, 1) := by decide +kernel
theorem dX6_settle_61 : decode cX6_settle 61 = .ok (.iload_n 2, 1) := by decide +kernel
theorem dX6_settle_62 : decode cX6_settle 62 = .ok (.iload 4, 2) := by decide +kernel
theorem dX6_settle_64 : decode cX6_settle 64 = .ok (.invokevirtual 30, 3) := by decide +kernel
theorem dX6_settle_67 : decode cX6_settle 67 = .ok (.istore 5, 2) := by decide +kernel
theorem dX6_settle_69 : decode cX6_settle 69 = .ok (.aload_n 0, 1) := by decide +kernel
theorem dX6_settle_70 : decode cX6_settle 70 = .ok (.getfield 11, 3) := by decide +kernel
theorem dX6_settle_73 : decode cX6_settle 73 = .ok (.iload_n 2, 1) := by decide +kernel
theorem dX6_settle_74 : decode cX6_settle 74 = .ok (.iconst 1, 1) := by decide +kernel
theorem dX6_settle_75 : decode cX6_settle 75 = .ok (.iload 4, 2) := by decide +kernel
theorem dX6_settle_77 : decode cX6_settle 77 = .ok (.ishl, 1) := by decide +kernel
theorem dX6_settle_78 : decode cX6_settle 78 = .ok (.ior, 1) := by decide +kernel
theorem dX6_settle_79 : decode cX6_settle 79 = .ok (.aaload, 1) := by decide +kernel
theorem dX6_settle_80 : decode cX6_settle 80 = .ok (.astore 6, 2) := by decide +kernel
theorem dX6_settle_82 : decode cX6_settle 82 = .ok (.iload 5, 2) := by decide +kernel
theorem dX6_settle_84 : decode cX6_settle 84 = .ok (.istore 7, 2) := by decide +kernel
theorem dX6_settle_86 : decode cX6_settle 86 = .ok (.iload 7, 2) := by decide +kernel
theorem dX6_settle_88 : decode cX6_settle 88 = .ok (.bipush 40, 2) := by decide +kernel
theorem dX6_settle_90 : decode cX6_settle 90 = .ok (.if_icmp .gt 24, 3) := by decide +kernel
theorem dX6_settle_93 : decode cX6_settle 93 = .ok (.aload_n 3, 1) := by decide +kernel
theorem dX6_settle_94 : decode cX6_settle 94 = .ok (.iload 7, 2) := by decide +kernel
theorem dX6_settle_96 : decode cX6_settle 96 = .ok (.dup2, 1) := by decide +kernel
theorem dX6_settle_97 : decode cX6_settle 97 = .ok (.iaload, 1) := by decide +kernel
theorem dX6_settle_98 : decode cX6_settle 98 = .ok (.aload 6, 2) := by decide +kernel
theorem dX6_settle_100 : decode cX6_settle 100 = .ok (.iload 7, 2) := by decide +kernel
theorem dX6_settle_102 : decode cX6_settle 102 = .ok (.iload 5, 2) := by decide +kernel
theorem dX6_settle_104 : decode cX6_settle 104 = .ok (.isub, 1) := by decide +kernel
theorem dX6_settle_105 : decode cX6_settle 105 = .ok (.iaload, 1) := by decide +kernel
theorem dX6_settle_106 : decode cX6_settle 106 = .ok (.iadd, 1) := by decide +kernel
theorem dX6_settle_107 : decode cX6_settle 107 = .ok (.iastore, 1) := by decide +kernel
theorem dX6_settle_108 : decode cX6_settle 108 = .ok (.iinc 7 1, 3) := by decide +kernel
theorem dX6_settle_111 : decode cX6_settle 111 = .ok (.goto (-25), 3) := by decide +kernel
theorem dX6_settle_114 : decode cX6_settle 114 = .ok (.iinc 4 1, 3) := by decide +kernel
theorem dX6_settle_117 : decode cX6_settle 117 = .ok (.goto (-74), 3) := by decide +kernel
theorem dX6_settle_120 : decode cX6_settle 120 = .ok (.return_, 1) := by decide +kernel
theorem dX7_init_0 : decode cX7_init 0 = .ok (.aload_n 0, 1) := by decide +kernel
theorem dX7_init_1 : decode cX7_init 1 = .ok (.invokespecial 3, 3) := by decide +kernel
theorem dX7_init_4 : decode cX7_init 4 = .ok (.aload_n 0, 1) := by decide +kernel
theorem dX7_init_5 : decode cX7_init 5 = .ok (.bipush 100, 2) := by decide +kernel
theorem dX7_init_7 : decode cX7_init 7 = .ok (.newarray .int, 2) := by decide +kernel
theorem dX7_init_9 : decode cX7_init 9 = .ok (.putfield 9, 3) := by decide +kernel
theorem dX7_init_12 : decode cX7_init 12 = .ok (.return_, 1) := by decide +kernel
theorem dX7_append_0 : decode cX7_append 0 = .ok (.aload_n 0, 1) := by decide +kernel
theorem dX7_append_1 : decode cX7_append 1 = .ok (.getfield 15, 3) := by decide +kernel
theorem dX7_append_4 : decode cX7_append 4 = .ok (.bipush 100, 2) := by decide +kernel
theorem dX7_append_6 : decode cX7_append 6 = .ok (.if_icmp .lt 5, 3) := by decide +kernel
theorem dX7_append_9 : decode cX7_append 9 = .ok (.iconst 0, 1) := by decide +kernel
theorem dX7_append_10 : decode cX7_append 10 = .ok (.ireturn, 1) := by decide +kernel
theorem dX7_append_11 : decode cX7_append 11 = .ok (.aload_n 0, 1) := by decide +kernel
theorem dX7_append_12 : decode cX7_append 12 = .ok (.getfield 9, 3) := by decide +kernel
theorem dX7_append_15 : decode cX7_append 15 = .ok (.aload_n 0, 1) := by decide +kernel
theorem dX7_append_16 : decode cX7_append 16 = .ok (.getfield 15, 3) := by decide +kernel
theorem dX7_append_19 : decode cX7_append 19 = .ok (.iload_n 1, 1) := by decide +kernel
theorem dX7_append_20 : decode cX7_append 20 = .ok (.iastore, 1) := by decide +kernel
theorem dX7_append_21 : decode cX7_append 21 = .ok (.aload_n 0, 1) := by decide +kernel
theorem dX7_append_22 : decode cX7_append 22 = .ok (.dup, 1) := by decide +kernel
theorem dX7_append_23 : decode cX7_append 23 = .ok (.getfield 15, 3) := by decide +kernel
theorem dX7_append_26 : decode cX7_append 26 = .ok (.iconst 1, 1) := by decide +kernel
theorem dX7_append_27 : decode cX7_append 27 = .ok (.iadd, 1) := by decide +kernel
theorem dX7_append_28 : decode cX7_append 28 = .ok (.putfield 15, 3) := by decide +kernel
theorem dX7_append_31 : decode cX7_append 31 = .ok (.iconst 1, 1) := by decide +kernel
theorem dX7_append_32 : decode cX7_append 32 = .ok (.ireturn, 1) := by decide +kernel
set_option maxRecDepth 20000 in
theorem ggX7_tellTo_X7_statements : GoodIn wsX7_tellTo wsX7_statements := goodIn_r _ [6, 7, 8, 1, 9, 10, 11, 5, 12, 13, 14, 15, 16, 17, 18, 19, 20, 21, 22, 23, 24, 25, 26, 27, 28, 29, 30, 31, 32, 33, 34, 35, 36, 37, 38, 39, 40, 41, 42, 43, 44, 45, 46, 47, 48, 49, 50, 51, 52, 53, 54, 55, 56, 57, 58, 59, 60, 61, 62, 63, 64, 65, 66, 67, 68, 69, 70, 71, 72, 73, 74, 75, 76, 77, 78, 79] (by decide +kernel) (by decide +kernel)
set_option maxRecDepth 20000 in
theorem gX7_tellTo_X7_statements : GoodIn wsX7_tellTo (wsV RX7 19 RX7 yX7_statements wsX7_statements) := goodIn_app (goodIn_of _ (by decide +kernel)) ggX7_tellTo_X7_statements
theorem dX7_tellTo_0 : decode cX7_tellTo 0 = .ok (.aload_n 0, 1) := by decide +kernel
theorem dX7_tellTo_1 : decode cX7_tellTo 1 = .ok (.aload_n 1, 1) := by decide +kernel
theorem dX7_tellTo_2 : decode cX7_tellTo 2 = .ok (.invokevirtual 19, 3) := by decide +kernel
theorem dX7_tellTo_5 : decode cX7_tellTo 5 = .ok (.istore_n 2, 1) := by decide +kernel
theorem dX7_tellTo_6 : decode cX7_tellTo 6 = .ok (.aload_n 0, 1) := by decide +kernel
theorem dX7_tellTo_7 : decode cX7_tellTo 7 = .ok (.iconst 0, 1) := by decide +kernel
theorem dX7_tellTo_8 : decode cX7_tellTo 8 = .ok (.putfield 15, 3) := by decide +kernel
theorem dX7_tellTo_11 : decode cX7_tellTo 11 = .ok (.iload_n 2, 1) := by decide +kernel
theorem dX7_tellTo_12 : decode cX7_tellTo 12 = .ok (.ireturn, 1) := by decide +kernel
set_option maxRecDepth 20000 in
theorem ggX7_statements_X7_statement : GoodIn wsX7_statements wsX7_statement := goodIn_r _ [8, 9, 10, 11, 7, 12, 1, 3, 13, 14, 15, 16, 17, 18, 19, 2, 20, 21, 22, 23, 24, 25, 26, 27, 28, 29, 30, 31, 32, 33, 34, 35, 36, 37, 38, 39, 40, 41, 42, 43, 44, 45, 46, 47, 48, 49, 50, 51, 52, 53, 54, 55, 56, 57, 58, 59, 60, 61, 62, 63, 64, 65, 66, 67, 68, 69, 70, 71, 72, 73, 74, 75] (by decide +kernel) (by decide +kernel)
set_option maxRecDepth 20000 in
theorem gX7_statements_X7_statement : GoodIn wsX7_statements (wsV RX7 26 RX7 yX7_statement wsX7_statement) := goodIn_app (goodIn_of _ (by decide +kernel)) ggX7_statements_X7_statement
set_option maxRecDepth 20000 in
theorem ggX7_statements_X7_here : GoodIn wsX7_statements wsX7_here := goodIn_r _ [12, 1, 3, 13, 65, 66, 67, 68, 69, 70] (by decide +kernel) (by decide +kernel)
set_option maxRecDepth 20000 in
theorem gX7_statements_X7_here : GoodIn wsX7_statements (wsV RX7 34 RX7 yX7_here wsX7_here) := goodIn_app (goodIn_of _ (by decide +kernel)) ggX7_statements_X7_here
theorem dX7_statements_0 : decode cX7_statements 0 = .ok (.iconst (-1), 1) := by decide +kernel
theorem dX7_statements_1 : decode cX7_statements 1 = .ok (.istore_n 2, 1) := by decide +kernel
theorem dX7_statements_2 : decode cX7_statements 2 = .ok (.aload_n 0, 1) := by decide +kernel
theorem dX7_statements_3 : decode cX7_statements 3 = .ok (.iconst 0, 1) := by decide +kernel
theorem dX7_statements_4 : decode cX7_statements 4 = .ok (.putfield 23, 3) := by decide +kernel
theorem dX7_statements_7 : decode cX7_statements 7 = .ok (.iconst 1, 1) := by decide +kernel
theorem dX7_statements_8 : decode cX7_statements 8 = .ok (.istore_n 3, 1) := by decide +kernel
theorem dX7_statements_9 : decode cX7_statements 9 = .ok (.iload_n 3, 1) := by decide +kernel
theorem dX7_statements_10 : decode cX7_statements 10 = .ok (.bipush 100, 2) := by decide +kernel
theorem dX7_statements_12 : decode cX7_statements 12 = .ok (.if_icmp .gt 87, 3) := by decide +kernel
theorem dX7_statements_15 : decode cX7_statements 15 = .ok (.aload_n 0, 1) := by decide +kernel
theorem dX7_statements_16 : decode cX7_statements 16 = .ok (.getfield 23, 3) := by decide +kernel
theorem dX7_statements_19 : decode cX7_statements 19 = .ok (.istore 4, 2) := by decide +kernel
theorem dX7_statements_21 : decode cX7_statements 21 = .ok (.aload_n 0, 1) := by decide +kernel
theorem dX7_statements_22 : decode cX7_statements 22 = .ok (.aload_n 1, 1) := by decide +kernel
theorem dX7_statements_23 : decode cX7_statements 23 = .ok (.invokevirtual 26, 3) := by decide +kernel
theorem dX7_statements_26 : decode cX7_statements 26 = .ok (.ifCond .ne 6, 3) := by decide +kernel
theorem dX7_statements_29 : decode cX7_statements 29 = .ok (.goto 70, 3) := by decide +kernel
theorem dX7_statements_32 : decode cX7_statements 32 = .ok (.aload_n 0, 1) := by decide +kernel
theorem dX7_statements_33 : decode cX7_statements 33 = .ok (.getfield 30, 3) := by decide +kernel
theorem dX7_statements_36 : decode cX7_statements 36 = .ok (.ifCond .ne 10, 3) := by decide +kernel
theorem dX7_statements_39 : decode cX7_statements 39 = .ok (.iload_n 2, 1) := by decide +kernel
theorem dX7_statements_40 : decode cX7_statements 40 = .ok (.ifCond .ge 6, 3) := by decide +kernel
theorem dX7_statements_43 : decode cX7_statements 43 = .ok (.iload 4, 2) := by decide +kernel
theorem dX7_statements_45 : decode cX7_statements 45 = .ok (.istore_n 2, 1) := by decide +kernel
theorem dX7_statements_46 : decode cX7_statements 46 = .ok (.aload_n 0, 1) := by decide +kernel
theorem dX7_statements_47 : decode cX7_statements 47 = .ok (.getfield 23, 3) := by decide +kernel
theorem dX7_statements_50 : decode cX7_statements 50 = .ok (.aload_n 0, 1) := by decide +kernel
theorem dX7_statements_51 : decode cX7_statements 51 = .ok (.getfield 15, 3) := by decide +kernel
theorem dX7_statements_54 : decode cX7_statements 54 = .ok (.if_icmp .lt 17, 3) := by decide +kernel
theorem dX7_statements_57 : decode cX7_statements 57 = .ok (.iload_n 2, 1) := by decide +kernel
theorem dX7_statements_58 : decode cX7_statements 58 = .ok (.ifCond .ge 7, 3) := by decide +kernel
theorem dX7_statements_61 : decode cX7_statements 61 = .ok (.iload_n 3, 1) := by decide +kernel
theorem dX7_statements_62 : decode cX7_statements 62 = .ok (.goto 8, 3) := by decide +kernel
theorem dX7_statements_65 : decode cX7_statements 65 = .ok (.sipush (-300), 3) := by decide +kernel
theorem dX7_statements_68 : decode cX7_statements 68 = .ok (.iload_n 2, 1) := by decide +kernel
theorem dX7_statements_69 : decode cX7_statements 69 = .ok (.isub, 1) := by decide +kernel
theorem dX7_statements_70 : decode cX7_statements 70 = .ok (.ireturn, 1) := by decide +kernel
theorem dX7_statements_71 : decode cX7_statements 71 = .ok (.aload_n 0, 1) := by decide +kernel
theorem dX7_statements_72 : decode cX7_statements 72 = .ok (.invokevirtual 34, 3) := by decide +kernel
theorem dX7_statements_75 : decode cX7_statements 75 = .ok (.bipush 59, 2) := by decide +kernel
theorem dX7_statements_77 : decode cX7_statements 77 = .ok (.if_icmp .eq 6, 3) := by decide +kernel
theorem dX7_statements_80 : decode cX7_statements 80 = .ok (.goto 19, 3) := by decide +kernel
theorem dX7_statements_83 : decode cX7_statements 83 = .ok (.aload_n 0, 1) := by decide +kernel
theorem dX7_statements_84 : decode cX7_statements 84 = .ok (.dup, 1) := by decide +kernel
theorem dX7_statements_85 : decode cX7_statements 85 = .ok (.getfield 23, 3) := by decide +kernel
theorem dX7_statements_88 : decode cX7_statements 88 = .ok (.iconst 1, 1) := by decide +kernel
theorem dX7_statements_89 : decode cX7_statements 89 = .ok (.iadd, 1) := by decide +kernel
theorem dX7_statements_90 : decode cX7_statements 90 = .ok (.putfield 23, 3) := by decide +kernel
theorem dX7_statements_93 : decode cX7_statements 93 = .ok (.iinc 3 1, 3) := by decide +kernel
theorem dX7_statements_96 : decode cX7_statements 96 = .ok (.goto (-87), 3) := by decide +kernel
theorem dX7_statements_99 : decode cX7_statements 99 = .ok (.bipush (-100), 2) := by decide +kernel
theorem dX7_statements_101 : decode cX7_statements 101 = .ok (.aload_n 0, 1) := by decide +kernel
theorem dX7_statements_102 : decode cX7_statements 102 = .ok (.getfield 23, 3) := by decide +kernel
theorem dX7_statements_105 : decode cX7_statements 105 = .ok (.isub, 1) := by decide +kernel
theorem dX7_statements_106 : decode cX7_statements 106 = .ok (.ireturn, 1) := by decide +kernel
set_option maxRecDepth 20000 in
theorem ggX7_statement_X7_here : GoodIn wsX7_statement wsX7_here := goodIn_r _ [5, 6, 7, 8, 61, 62, 63, 64, 65, 66] (by decide +kernel) (by decide +kernel)
set_option maxRecDepth 20000 in
theorem gX7_statement_X7_here : GoodIn wsX7_statement (wsV RX7 34 RX7 yX7_here wsX7_here) := goodIn_app (goodIn_of _ (by decide +kernel)) ggX7_statement_X7_here
set_option maxRecDepth 20000 in
theorem ggX7_statement_X7_correction : GoodIn wsX7_statement wsX7_correction := goodIn_r _ [12, 6, 13, 14, 15, 16, 17, 18, 4, 19, 1, 2, 3, 5, 7, 8, 20, 21, 22, 23, 24, 25, 26, 27, 28, 29, 30, 31, 32, 33, 34, 35, 36, 37, 38, 39, 40, 41, 42, 43, 44, 45, 46, 47, 61, 62, 63, 64, 65, 66, 67, 68, 69, 70, 71] (by decide +kernel) (by decide +kernel)
set_option maxRecDepth 20000 in
theorem gX7_statement_X7_correction : GoodIn wsX7_statement (wsV RX7 38 RX7 yX7_correction wsX7_correction) := goodIn_app (goodIn_of _ (by decide +kernel)) ggX7_statement_X7_correction
set_option maxRecDepth 20000 in
theorem ggX7_statement_X7_burial : GoodIn wsX7_statement wsX7_burial := goodIn_r _ [51, 6, 13, 15, 14, 16, 17, 18, 4, 19, 1, 2, 3, 5, 7, 8, 52, 53, 54, 30, 55, 43, 56, 38, 24, 25, 26, 20, 21, 22, 23, 27, 28, 29, 31, 32, 33, 57, 58, 59, 60, 39, 40, 41, 42, 34, 35, 36, 37, 44, 45, 46, 47, 61, 62, 63, 64, 65, 66, 67, 68, 69, 70, 71] (by decide +kernel) (by decide +kernel)
set_option maxRecDepth 20000 in
theorem gX7_statement_X7_burial : GoodIn wsX7_statement (wsV RX7 42 RX7 yX7_burial wsX7_burial) := goodIn_app (goodIn_of _ (by decide +kernel)) ggX7_statement_X7_burial
theorem dX7_statement_0 : decode cX7_statement 0 = .ok (.aload_n 0, 1) := by decide +kernel
theorem dX7_statement_1 : decode cX7_statement 1 = .ok (.invokevirtual 34, 3) := by decide +kernel
theorem dX7_statement_4 : decode cX7_statement 4 = .ok (.istore_n 2, 1) := by decide +kernel
theorem dX7_statement_5 : decode cX7_statement 5 = .ok (.iload_n 2, 1) := by decide +kernel
theorem dX7_statement_6 : decode cX7_statement 6 = .ok (.bipush 43, 2) := by decide +kernel
theorem dX7_statement_8 : decode cX7_statement 8 = .ok (.if_icmp .eq 9, 3) := by decide +kernel
theorem dX7_statement_11 : decode cX7_statement 11 = .ok (.iload_n 2, 1) := by decide +kernel
theorem dX7_statement_12 : decode cX7_statement 12 = .ok (.bipush 45, 2) := by decide +kernel
theorem dX7_statement_14 : decode cX7_statement 14 = .ok (.if_icmp .ne 22, 3) := by decide +kernel
theorem dX7_statement_17 : decode cX7_statement 17 = .ok (.aload_n 0, 1) := by decide +kernel
theorem dX7_statement_18 : decode cX7_statement 18 = .ok (.aload_n 1, 1) := by decide +kernel
theorem dX7_statement_19 : decode cX7_statement 19 = .ok (.iload_n 2, 1) := by decide +kernel
theorem dX7_statement_20 : decode cX7_statement 20 = .ok (.bipush 43, 2) := by decide +kernel
theorem dX7_statement_22 : decode cX7_statement 22 = .ok (.if_icmp .ne 7, 3) := by decide +kernel
theorem dX7_statement_25 : decode cX7_statement 25 = .ok (.iconst 1, 1) := by decide +kernel
theorem dX7_statement_26 : decode cX7_statement 26 = .ok (.goto 4, 3) := by decide +kernel
theorem dX7_statement_29 : decode cX7_statement 29 = .ok (.iconst 0, 1) := by decide +kernel
theorem dX7_statement_30 : decode cX7_statement 30 = .ok (.invokevirtual 38, 3) := by decide +kernel
theorem dX7_statement_33 : decode cX7_statement 33 = .ok (.goto 8, 3) := by decide +kernel
theorem dX7_statement_36 : decode cX7_statement 36 = .ok (.aload_n 0, 1) := by decide +kernel
theorem dX7_statement_37 : decode cX7_statement 37 = .ok (.aload_n 1, 1) := by decide +kernel
theorem dX7_statement_38 : decode cX7_statement 38 = .ok (.invokevirtual 42, 3) := by decide +kernel
theorem dX7_statement_41 : decode cX7_statement 41 = .ok (.ireturn, 1) := by decide +kernel
set_option maxRecDepth 20000 in
theorem ggX7_correction_X7_figures : GoodIn wsX7_correction wsX7_figures := goodIn_r _ [9, 1, 2, 10, 11, 12, 8, 13, 14, 15, 44, 45, 46, 47, 48, 49] (by decide +kernel) (by decide +kernel)
set_option maxRecDepth 20000 in
theorem gX7_correction_X7_figures : GoodIn wsX7_correction (wsV RX7 45 RX7 yX7_figures wsX7_figures) := goodIn_app (goodIn_of _ (by decide +kernel)) ggX7_correction_X7_figures
set_option maxRecDepth 20000 in
theorem ggX7_correction_X7_letters : GoodIn wsX7_correction wsX7_letters := goodIn_r _ [19, 1, 3, 10, 11, 12, 8, 13, 14, 15, 20, 21, 22, 44, 45, 46, 47, 48, 49] (by decide +kernel) (by decide +kernel)
set_option maxRecDepth 20000 in
theorem gX7_correction_X7_letters : GoodIn wsX7_correction (wsV RX7 49 RX7 yX7_letters wsX7_letters) := goodIn_app (goodIn_of _ (by decide +kernel)) ggX7_correction_X7_letters
set_option maxRecDepth 20000 in
theorem ggX7_correction_X5_named : GoodIn wsX7_correction wsX5_named := goodIn_r _ [27, 28, 29, 50, 51, 52, 53, 54] (by decide +kernel) (by decide +kernel)
set_option maxRecDepth 20000 in
theorem gX7_correction_X5_named : GoodIn wsX7_correction (wsV RX7 59 RX5 yX5_named wsX5_named) := goodIn_app (goodIn_of _ (by decide +kernel)) ggX7_correction_X5_named
set_option maxRecDepth 20000 in
theorem ggX7_correction_X5_mark : GoodIn wsX7_correction wsX5_mark := goodIn_r _ [33, 34, 35, 36, 37, 26, 38, 39, 40, 41, 42, 43, 28, 50, 51, 52, 53, 54] (by decide +kernel) (by decide +kernel)
set_option maxRecDepth 20000 in
theorem gX7_correction_X5_mark : GoodIn wsX7_correction (wsV RX7 65 RX5 yX5_mark wsX5_mark) := goodIn_app (goodIn_of _ (by decide +kernel)) ggX7_correction_X5_mark
theorem dX7_correction_0 : decode cX7_correction 0 = .ok (.aload_n 0, 1) := by decide +kernel
theorem dX7_correction_1 : decode cX7_correction 1 = .ok (.dup, 1) := by decide +kernel
theorem dX7_correction_2 : decode cX7_correction 2 = .ok (.getfield 23, 3) := by decide +kernel
theorem dX7_correction_5 : decode cX7_correction 5 = .ok (.iconst 1, 1) := by decide +kernel
theorem dX7_correction_6 : decode cX7_correction 6 = .ok (.iadd, 1) := by decide +kernel
theorem dX7_correction_7 : decode cX7_correction 7 = .ok (.putfield 23, 3) := by decide +kernel
theorem dX7_correction_10 : decode cX7_correction 10 = .ok (.aload_n 0, 1) := by decide +kernel
theorem dX7_correction_11 : decode cX7_correction 11 = .ok (.iconst 1, 1) := by decide +kernel
theorem dX7_correction_12 : decode cX7_correction 12 = .ok (.invokevirtual 45, 3) := by decide +kernel
theorem dX7_correction_15 : decode cX7_correction 15 = .ok (.ifCond .eq 10, 3) := by decide +kernel
theorem dX7_correction_18 : decode cX7_correction 18 = .ok (.aload_n 0, 1) := by decide +kernel
theorem dX7_correction_19 : decode cX7_correction 19 = .ok (.invokevirtual 49, 3) := by decide +kernel
theorem dX7_correction_22 : decode cX7_correction 22 = .ok (.ifCond .ne 5, 3) := by decide +kernel
theorem dX7_correction_25 : decode cX7_correction 25 = .ok (.iconst 0, 1) := by decide +kernel
theorem dX7_correction_26 : decode cX7_correction 26 = .ok (.ireturn, 1) := by decide +kernel
theorem dX7_correction_27 : decode cX7_correction 27 = .ok (.aload_n 0, 1) := by decide +kernel
theorem dX7_correction_28 : decode cX7_correction 28 = .ok (.aload_n 1, 1) := by decide +kernel
theorem dX7_correction_29 : decode cX7_correction 29 = .ok (.aload_n 0, 1) := by decide +kernel
theorem dX7_correction_30 : decode cX7_correction 30 = .ok (.getfield 53, 3) := by decide +kernel
theorem dX7_correction_33 : decode cX7_correction 33 = .ok (.aload_n 1, 1) := by decide +kernel
theorem dX7_correction_34 : decode cX7_correction 34 = .ok (.aload_n 0, 1) := by decide +kernel
theorem dX7_correction_35 : decode cX7_correction 35 = .ok (.getfield 56, 3) := by decide +kernel
theorem dX7_correction_38 : decode cX7_correction 38 = .ok (.invokevirtual 59, 3) := by decide +kernel
theorem dX7_correction_41 : decode cX7_correction 41 = .ok (.iload_n 2, 1) := by decide +kernel
theorem dX7_correction_42 : decode cX7_correction 42 = .ok (.invokevirtual 65, 3) := by decide +kernel
theorem dX7_correction_45 : decode cX7_correction 45 = .ok (.putfield 30, 3) := by decide +kernel
theorem dX7_correction_48 : decode cX7_correction 48 = .ok (.iconst 1, 1) := by decide +kernel
theorem dX7_correction_49 : decode cX7_correction 49 = .ok (.ireturn, 1) := by decide +kernel
set_option maxRecDepth 20000 in
theorem ggX7_burial_X7_figures : GoodIn wsX7_burial wsX7_figures := goodIn_r _ [9, 1, 2, 10, 11, 12, 8, 13, 14, 15, 53, 54, 55, 56, 57, 58] (by decide +kernel) (by decide +kernel)
set_option maxRecDepth 20000 in
theorem gX7_burial_X7_figures : GoodIn wsX7_burial (wsV RX7 45 RX7 yX7_figures wsX7_figures) := goodIn_app (goodIn_of _ (by decide +kernel)) ggX7_burial_X7_figures
set_option maxRecDepth 20000 in
theorem ggX7_burial_X7_here : GoodIn wsX7_burial wsX7_here := goodIn_r _ [13, 1, 14, 15, 53, 54, 55, 56, 57, 58] (by decide +kernel) (by decide +kernel)
set_option maxRecDepth 20000 in
theorem gX7_burial_X7_here : GoodIn wsX7_burial (wsV RX7 34 RX7 yX7_here wsX7_here) := goodIn_app (goodIn_of _ (by decide +kernel)) ggX7_burial_X7_here
set_option maxRecDepth 20000 in
theorem ggX7_burial_X5_dig : GoodIn wsX7_burial wsX5_dig := goodIn_r _ [20, 21, 22, 23, 59, 60, 61, 62, 63] (by decide +kernel) (by decide +kernel)
set_option maxRecDepth 20000 in
theorem gX7_burial_X5_dig : GoodIn wsX7_burial (wsV RX7 69 RX5 yX5_dig wsX5_dig) := goodIn_app (goodIn_of _ (by decide +kernel)) ggX7_burial_X5_dig
set_option maxRecDepth 20000 in
theorem ggX7_burial_X7_isLetter : GoodIn wsX7_burial wsX7_isLetter := goodIn_r _ [26] (by decide +kernel) (by decide +kernel)
set_option maxRecDepth 20000 in
theorem gX7_burial_X7_isLetter : GoodIn wsX7_burial (va_wsS RX7 72 yX7_isLetter wsX7_isLetter) := goodIn_app (goodIn_of _ (by decide +kernel)) ggX7_burial_X7_isLetter
set_option maxRecDepth 20000 in
theorem ggX7_burial_X7_letters : GoodIn wsX7_burial wsX7_letters := goodIn_r _ [30, 1, 4, 10, 11, 12, 8, 13, 14, 15, 24, 25, 26, 53, 54, 55, 56, 57, 58] (by decide +kernel) (by decide +kernel)
set_option maxRecDepth 20000 in
theorem gX7_burial_X7_letters : GoodIn wsX7_burial (wsV RX7 49 RX7 yX7_letters wsX7_letters) := goodIn_app (goodIn_of _ (by decide +kernel)) ggX7_burial_X7_letters
set_option maxRecDepth 20000 in
theorem ggX7_burial_X5_named : GoodIn wsX7_burial wsX5_named := goodIn_r _ [34, 35, 36, 59, 60, 61, 62, 63] (by decide +kernel) (by decide +kernel)
set_option maxRecDepth 20000 in
theorem gX7_burial_X5_named : GoodIn wsX7_burial (wsV RX7 59 RX5 yX5_named wsX5_named) := goodIn_app (goodIn_of _ (by decide +kernel)) ggX7_burial_X5_named
set_option maxRecDepth 20000 in
theorem ggX7_burial_X5_owns : GoodIn wsX7_burial wsX5_owns := goodIn_r _ [40, 23, 41, 42, 43, 19, 44, 21, 59, 60, 61, 62, 63] (by decide +kernel) (by decide +kernel)
set_option maxRecDepth 20000 in
theorem gX7_burial_X5_owns : GoodIn wsX7_burial (wsV RX7 75 RX5 yX5_owns wsX5_owns) := goodIn_app (goodIn_of _ (by decide +kernel)) ggX7_burial_X5_owns
set_option maxRecDepth 20000 in
theorem ggX7_burial_X5_mark : GoodIn wsX7_burial wsX5_mark := goodIn_r _ [48, 23, 41, 42, 43, 19, 44, 21, 49, 50, 51, 52, 35, 59, 60, 61, 62, 63] (by decide +kernel) (by decide +kernel)
set_option maxRecDepth 20000 in
theorem gX7_burial_X5_mark : GoodIn wsX7_burial (wsV RX7 65 RX5 yX5_mark wsX5_mark) := goodIn_app (goodIn_of _ (by decide +kernel)) ggX7_burial_X5_mark
theorem dX7_burial_0 : decode cX7_burial 0 = .ok (.aload_n 0, 1) := by decide +kernel
theorem dX7_burial_1 : decode cX7_burial 1 = .ok (.iconst 3, 1) := by decide +kernel
theorem dX7_burial_2 : decode cX7_burial 2 = .ok (.invokevirtual 45, 3) := by decide +kernel
theorem dX7_burial_5 : decode cX7_burial 5 = .ok (.ifCond .eq 12, 3) := by decide +kernel
theorem dX7_burial_8 : decode cX7_burial 8 = .ok (.aload_n 0, 1) := by decide +kernel
theorem dX7_burial_9 : decode cX7_burial 9 = .ok (.invokevirtual 34, 3) := by decide +kernel
theorem dX7_burial_12 : decode cX7_burial 12 = .ok (.bipush 58, 2) := by decide +kernel
theorem dX7_burial_14 : decode cX7_burial 14 = .ok (.if_icmp .eq 5, 3) := by decide +kernel
theorem dX7_burial_17 : decode cX7_burial 17 = .ok (.iconst 0, 1) := by decide +kernel
theorem dX7_burial_18 : decode cX7_burial 18 = .ok (.ireturn, 1) := by decide +kernel
theorem dX7_burial_19 : decode cX7_burial 19 = .ok (.aload_n 0, 1) := by decide +kernel
theorem dX7_burial_20 : decode cX7_burial 20 = .ok (.dup, 1) := by decide +kernel
theorem dX7_burial_21 : decode cX7_burial 21 = .ok (.getfield 23, 3) := by decide +kernel
theorem dX7_burial_24 : decode cX7_burial 24 = .ok (.iconst 1, 1) := by decide +kernel
theorem dX7_burial_25 : decode cX7_burial 25 = .ok (.iadd, 1) := by decide +kernel
theorem dX7_burial_26 : decode cX7_burial 26 = .ok (.putfield 23, 3) := by decide +kernel
theorem dX7_burial_29 : decode cX7_burial 29 = .ok (.aload_n 1, 1) := by decide +kernel
theorem dX7_burial_30 : decode cX7_burial 30 = .ok (.aload_n 0, 1) := by decide +kernel
theorem dX7_burial_31 : decode cX7_burial 31 = .ok (.getfield 53, 3) := by decide +kernel
theorem dX7_burial_34 : decode cX7_burial 34 = .ok (.invokevirtual 69, 3) := by decide +kernel
theorem dX7_burial_37 : decode cX7_burial 37 = .ok (.istore_n 2, 1) := by decide +kernel
theorem dX7_burial_38 : decode cX7_burial 38 = .ok (.aload_n 0, 1) := by decide +kernel
theorem dX7_burial_39 : decode cX7_burial 39 = .ok (.iload_n 2, 1) := by decide +kernel
theorem dX7_burial_40 : decode cX7_burial 40 = .ok (.ifCond .lt 7, 3) := by decide +kernel
theorem dX7_burial_43 : decode cX7_burial 43 = .ok (.iconst 1, 1) := by decide +kernel
theorem dX7_burial_44 : decode cX7_burial 44 = .ok (.goto 4, 3) := by decide +kernel
theorem dX7_burial_47 : decode cX7_burial 47 = .ok (.iconst 0, 1) := by decide +kernel
theorem dX7_burial_48 : decode cX7_burial 48 = .ok (.putfield 30, 3) := by decide +kernel
theorem dX7_burial_51 : decode cX7_burial 51 = .ok (.aload_n 0, 1) := by decide +kernel
theorem dX7_burial_52 : decode cX7_burial 52 = .ok (.invokevirtual 34, 3) := by decide +kernel
theorem dX7_burial_55 : decode cX7_burial 55 = .ok (.invokestatic 72, 3) := by decide +kernel
theorem dX7_burial_58 : decode cX7_burial 58 = .ok (.ifCond .ne 5, 3) := by decide +kernel
theorem dX7_burial_61 : decode cX7_burial 61 = .ok (.iconst 1, 1) := by decide +kernel
theorem dX7_burial_62 : decode cX7_burial 62 = .ok (.ireturn, 1) := by decide +kernel
theorem dX7_burial_63 : decode cX7_burial 63 = .ok (.iconst 0, 1) := by decide +kernel
theorem dX7_burial_64 : decode cX7_burial 64 = .ok (.istore_n 3, 1) := by decide +kernel
theorem dX7_burial_65 : decode cX7_burial 65 = .ok (.iload_n 3, 1) := by decide +kernel
theorem dX7_burial_66 : decode cX7_burial 66 = .ok (.bipush 100, 2) := by decide +kernel
theorem dX7_burial_68 : decode cX7_burial 68 = .ok (.if_icmp .ge 86, 3) := by decide +kernel
theorem dX7_burial_71 : decode cX7_burial 71 = .ok (.aload_n 0, 1) := by decide +kernel
theorem dX7_burial_72 : decode cX7_burial 72 = .ok (.invokevirtual 49, 3) := by decide +kernel
theorem dX7_burial_75 : decode cX7_burial 75 = .ok (.ifCond .ne 5, 3) := by decide +kernel
theorem dX7_burial_78 : decode cX7_burial 78 = .ok (.iconst 0, 1) := by decide +kernel
theorem dX7_burial_79 : decode cX7_burial 79 = .ok (.ireturn, 1) := by decide +kernel
theorem dX7_burial_80 : decode cX7_burial 80 = .ok (.aload_n 1, 1) := by decide +kernel
theorem dX7_burial_81 : decode cX7_burial 81 = .ok (.aload_n 0, 1) := by decide +kernel
theorem dX7_burial_82 : decode cX7_burial 82 = .ok (.getfield 56, 3) := by decide +kernel
theorem dX7_burial_85 : decode cX7_burial 85 = .ok (.invokevirtual 59, 3) := by decide +kernel
theorem dX7_burial_88 : decode cX7_burial 88 = .ok (.istore 4, 2) := by decide +kernel
theorem dX7_burial_90 : decode cX7_burial 90 = .ok (.aload_n 0, 1) := by decide +kernel
theorem dX7_burial_91 : decode cX7_burial 91 = .ok (.aload_n 0, 1) := by decide +kernel
theorem dX7_burial_92 : decode cX7_burial 92 = .ok (.getfield 30, 3) := by decide +kernel
theorem dX7_burial_95 : decode cX7_burial 95 = .ok (.ifCond .eq 28, 3) := by decide +kernel
theorem dX7_burial_98 : decode cX7_burial 98 = .ok (.aload_n 1, 1) := by decide +kernel
theorem dX7_burial_99 : decode cX7_burial 99 = .ok (.iload_n 2, 1) := by decide +kernel
theorem dX7_burial_100 : decode cX7_burial 100 = .ok (.iload 4, 2) := by decide +kernel
theorem dX7_burial_102 : decode cX7_burial 102 = .ok (.invokevirtual 75, 3) := by decide +kernel
theorem dX7_burial_105 : decode cX7_burial 105 = .ok (.ifCond .ne 18, 3) := by decide +kernel
theorem dX7_burial_108 : decode cX7_burial 108 = .ok (.aload_n 1, 1) := by decide +kernel
theorem dX7_burial_109 : decode cX7_burial 109 = .ok (.iload_n 2, 1) := by decide +kernel
theorem dX7_burial_110 : decode cX7_burial 110 = .ok (.iload 4, 2) := by decide +kernel
theorem dX7_burial_112 : decode cX7_burial 112 = .ok (.iconst 1, 1) := by decide +kernel
theorem dX7_burial_113 : decode cX7_burial 113 = .ok (.invokevirtual 65, 3) := by decide +kernel
theorem dX7_burial_116 : decode cX7_burial 116 = .ok (.ifCond .eq 7, 3) := by decide +kernel
theorem dX7_burial_119 : decode cX7_burial 119 = .ok (.iconst 1, 1) := by decide +kernel
theorem dX7_burial_120 : decode cX7_burial 120 = .ok (.goto 4, 3) := by decide +kernel
theorem dX7_burial_123 : decode cX7_burial 123 = .ok (.iconst 0, 1) := by decide +kernel
theorem dX7_burial_124 : decode cX7_burial 124 = .ok (.putfield 30, 3) := by decide +kernel
theorem dX7_burial_127 : decode cX7_burial 127 = .ok (.aload_n 0, 1) := by decide +kernel
theorem dX7_burial_128 : decode cX7_burial 128 = .ok (.invokevirtual 34, 3) := by decide +kernel
theorem dX7_burial_131 : decode cX7_burial 131 = .ok (.bipush 44, 2) := by decide +kernel
theorem dX7_burial_133 : decode cX7_burial 133 = .ok (.if_icmp .eq 5, 3) := by decide +kernel
theorem dX7_burial_136 : decode cX7_burial 136 = .ok (.iconst 1, 1) := by decide +kernel
theorem dX7_burial_137 : decode cX7_burial 137 = .ok (.ireturn, 1) := by decide +kernel
theorem dX7_burial_138 : decode cX7_burial 138 = .ok (.aload_n 0, 1) := by decide +kernel
theorem dX7_burial_139 : decode cX7_burial 139 = .ok (.dup, 1) := by decide +kernel
theorem dX7_burial_140 : decode cX7_burial 140 = .ok (.getfield 23, 3) := by decide +kernel
theorem dX7_burial_143 : decode cX7_burial 143 = .ok (.iconst 1, 1) := by decide +kernel
theorem dX7_burial_144 : decode cX7_burial 144 = .ok (.iadd, 1) := by decide +kernel
theorem dX7_burial_145 : decode cX7_burial 145 = .ok (.putfield 23, 3) := by decide +kernel
theorem dX7_burial_148 : decode cX7_burial 148 = .ok (.iinc 3 1, 3) := by decide +kernel
theorem dX7_burial_151 : decode cX7_burial 151 = .ok (.goto (-86), 3) := by decide +kernel
theorem dX7_burial_154 : decode cX7_burial 154 = .ok (.iconst 0, 1) := by decide +kernel
theorem dX7_burial_155 : decode cX7_burial 155 = .ok (.ireturn, 1) := by decide +kernel
set_option maxRecDepth 20000 in
theorem ggX7_figures_X7_here : GoodIn wsX7_figures wsX7_here := goodIn_r _ [7, 1, 8, 9, 10, 11, 12, 13, 14, 15] (by decide +kernel) (by decide +kernel)
set_option maxRecDepth 20000 in
theorem gX7_figures_X7_here : GoodIn wsX7_figures (wsV RX7 34 RX7 yX7_here wsX7_here) := goodIn_app (goodIn_of _ (by decide +kernel)) ggX7_figures_X7_here
theorem dX7_figures_0 : decode cX7_figures 0 = .ok (.aload_n 0, 1) := by decide +kernel
theorem dX7_figures_1 : decode cX7_figures 1 = .ok (.getfield 23, 3) := by decide +kernel
theorem dX7_figures_4 : decode cX7_figures 4 = .ok (.istore_n 2, 1) := by decide +kernel
theorem dX7_figures_5 : decode cX7_figures 5 = .ok (.aload_n 0, 1) := by decide +kernel
theorem dX7_figures_6 : decode cX7_figures 6 = .ok (.iconst 0, 1) := by decide +kernel
theorem dX7_figures_7 : decode cX7_figures 7 = .ok (.putfield 53, 3) := by decide +kernel
theorem dX7_figures_10 : decode cX7_figures 10 = .ok (.iconst 0, 1) := by decide +kernel
theorem dX7_figures_11 : decode cX7_figures 11 = .ok (.istore_n 3, 1) := by decide +kernel
theorem dX7_figures_12 : decode cX7_figures 12 = .ok (.iload_n 3, 1) := by decide +kernel
theorem dX7_figures_13 : decode cX7_figures 13 = .ok (.iload_n 1, 1) := by decide +kernel
theorem dX7_figures_14 : decode cX7_figures 14 = .ok (.if_icmp .ge 56, 3) := by decide +kernel
theorem dX7_figures_17 : decode cX7_figures 17 = .ok (.aload_n 0, 1) := by decide +kernel
theorem dX7_figures_18 : decode cX7_figures 18 = .ok (.invokevirtual 34, 3) := by decide +kernel
theorem dX7_figures_21 : decode cX7_figures 21 = .ok (.bipush 48, 2) := by decide +kernel
theorem dX7_figures_23 : decode cX7_figures 23 = .ok (.if_icmp .lt 47, 3) := by decide +kernel
theorem dX7_figures_26 : decode cX7_figures 26 = .ok (.aload_n 0, 1) := by decide +kernel
theorem dX7_figures_27 : decode cX7_figures 27 = .ok (.invokevirtual 34, 3) := by decide +kernel
theorem dX7_figures_30 : decode cX7_figures 30 = .ok (.bipush 57, 2) := by decide +kernel
theorem dX7_figures_32 : decode cX7_figures 32 = .ok (.if_icmp .gt 38, 3) := by decide +kernel
theorem dX7_figures_35 : decode cX7_figures 35 = .ok (.aload_n 0, 1) := by decide +kernel
theorem dX7_figures_36 : decode cX7_figures 36 = .ok (.aload_n 0, 1) := by decide +kernel
theorem dX7_figures_37 : decode cX7_figures 37 = .ok (.getfield 53, 3) := by decide +kernel
theorem dX7_figures_40 : decode cX7_figures 40 = .ok (.bipush 10, 2) := by decide +kernel
theorem dX7_figures_42 : decode cX7_figures 42 = .ok (.imul, 1) := by decide +kernel
theorem dX7_figures_43 : decode cX7_figures 43 = .ok (.aload_n 0, 1) := by decide +kernel
theorem dX7_figures_44 : decode cX7_figures 44 = .ok (.invokevirtual 34, 3) := by decide +kernel
theorem dX7_figures_47 : decode cX7_figures 47 = .ok (.iadd, 1) := by decide +kernel
theorem dX7_figures_48 : decode cX7_figures 48 = .ok (.bipush 48, 2) := by decide +kernel
theorem dX7_figures_50 : decode cX7_figures 50 = .ok (.isub, 1) := by decide +kernel
theorem dX7_figures_51 : decode cX7_figures 51 = .ok (.putfield 53, 3) := by decide +kernel
theorem dX7_figures_54 : decode cX7_figures 54 = .ok (.aload_n 0, 1) := by decide +kernel
theorem dX7_figures_55 : decode cX7_figures 55 = .ok (.dup, 1) := by decide +kernel
theorem dX7_figures_56 : decode cX7_figures 56 = .ok (.getfield 23, 3) := by decide +kernel
theorem dX7_figures_59 : decode cX7_figures 59 = .ok (.iconst 1, 1) := by decide +kernel
theorem dX7_figures_60 : decode cX7_figures 60 = .ok (.iadd, 1) := by decide +kernel
theorem dX7_figures_61 : decode cX7_figures 61 = .ok (.putfield 23, 3) := by decide +kernel
theorem dX7_figures_64 : decode cX7_figures 64 = .ok (.iinc 3 1, 3) := by decide +kernel
theorem dX7_figures_67 : decode cX7_figures 67 = .ok (.goto (-55), 3) := by decide +kernel
theorem dX7_figures_70 : decode cX7_figures 70 = .ok (.aload_n 0, 1) := by decide +kernel
theorem dX7_figures_71 : decode cX7_figures 71 = .ok (.getfield 23, 3) := by decide +kernel
theorem dX7_figures_74 : decode cX7_figures 74 = .ok (.iload_n 2, 1) := by decide +kernel
theorem dX7_figures_75 : decode cX7_figures 75 = .ok (.if_icmp .le 7, 3) := by decide +kernel
theorem dX7_figures_78 : decode cX7_figures 78 = .ok (.iconst 1, 1) := by decide +kernel
theorem dX7_figures_79 : decode cX7_figures 79 = .ok (.goto 4, 3) := by decide +kernel
theorem dX7_figures_82 : decode cX7_figures 82 = .ok (.iconst 0, 1) := by decide +kernel
theorem dX7_figures_83 : decode cX7_figures 83 = .ok (.ireturn, 1) := by decide +kernel
set_option maxRecDepth 20000 in
theorem ggX7_letters_X7_here : GoodIn wsX7_letters wsX7_here := goodIn_r _ [7, 1, 8, 9, 13, 14, 15, 16, 17, 18] (by decide +kernel) (by decide +kernel)
set_option maxRecDepth 20000 in
theorem gX7_letters_X7_here : GoodIn wsX7_letters (wsV RX7 34 RX7 yX7_here wsX7_here) := goodIn_app (goodIn_of _ (by decide +kernel)) ggX7_letters_X7_here
set_option maxRecDepth 20000 in
theorem ggX7_letters_X7_isLetter : GoodIn wsX7_letters wsX7_isLetter := goodIn_r _ [12] (by decide +kernel) (by decide +kernel)
set_option maxRecDepth 20000 in
theorem gX7_letters_X7_isLetter : GoodIn wsX7_letters (va_wsS RX7 72 yX7_isLetter wsX7_isLetter) := goodIn_app (goodIn_of _ (by decide +kernel)) ggX7_letters_X7_isLetter
theorem dX7_letters_0 : decode cX7_letters 0 = .ok (.aload_n 0, 1) := by decide +kernel
theorem dX7_letters_1 : decode cX7_letters 1 = .ok (.getfield 23, 3) := by decide +kernel
theorem dX7_letters_4 : decode cX7_letters 4 = .ok (.istore_n 1, 1) := by decide +kernel
theorem dX7_letters_5 : decode cX7_letters 5 = .ok (.aload_n 0, 1) := by decide +kernel
theorem dX7_letters_6 : decode cX7_letters 6 = .ok (.iconst 0, 1) := by decide +kernel
theorem dX7_letters_7 : decode cX7_letters 7 = .ok (.putfield 56, 3) := by decide +kernel
theorem dX7_letters_10 : decode cX7_letters 10 = .ok (.iconst 0, 1) := by decide +kernel
theorem dX7_letters_11 : decode cX7_letters 11 = .ok (.istore_n 2, 1) := by decide +kernel
theorem dX7_letters_12 : decode cX7_letters 12 = .ok (.iload_n 2, 1) := by decide +kernel
theorem dX7_letters_13 : decode cX7_letters 13 = .ok (.bipush 6, 2) := by decide +kernel
theorem dX7_letters_15 : decode cX7_letters 15 = .ok (.if_icmp .ge 68, 3) := by decide +kernel
theorem dX7_letters_18 : decode cX7_letters 18 = .ok (.aload_n 0, 1) := by decide +kernel
theorem dX7_letters_19 : decode cX7_letters 19 = .ok (.dup, 1) := by decide +kernel
theorem dX7_letters_20 : decode cX7_letters 20 = .ok (.getfield 56, 3) := by decide +kernel
theorem dX7_letters_23 : decode cX7_letters 23 = .ok (.bipush 27, 2) := by decide +kernel
theorem dX7_letters_25 : decode cX7_letters 25 = .ok (.imul, 1) := by decide +kernel
theorem dX7_letters_26 : decode cX7_letters 26 = .ok (.putfield 56, 3) := by decide +kernel
theorem dX7_letters_29 : decode cX7_letters 29 = .ok (.aload_n 0, 1) := by decide +kernel
theorem dX7_letters_30 : decode cX7_letters 30 = .ok (.getfield 23, 3) := by decide +kernel
theorem dX7_letters_33 : decode cX7_letters 33 = .ok (.iload_n 1, 1) := by decide +kernel
theorem dX7_letters_34 : decode cX7_letters 34 = .ok (.iload_n 2, 1) := by decide +kernel
theorem dX7_letters_35 : decode cX7_letters 35 = .ok (.iadd, 1) := by decide +kernel
theorem dX7_letters_36 : decode cX7_letters 36 = .ok (.if_icmp .ne 41, 3) := by decide +kernel
theorem dX7_letters_39 : decode cX7_letters 39 = .ok (.aload_n 0, 1) := by decide +kernel
theorem dX7_letters_40 : decode cX7_letters 40 = .ok (.invokevirtual 34, 3) := by decide +kernel
theorem dX7_letters_43 : decode cX7_letters 43 = .ok (.invokestatic 72, 3) := by decide +kernel
theorem dX7_letters_46 : decode cX7_letters 46 = .ok (.ifCond .eq 31, 3) := by decide +kernel
theorem dX7_letters_49 : decode cX7_letters 49 = .ok (.aload_n 0, 1) := by decide +kernel
theorem dX7_letters_50 : decode cX7_letters 50 = .ok (.dup, 1) := by decide +kernel
theorem dX7_letters_51 : decode cX7_letters 51 = .ok (.getfield 56, 3) := by decide +kernel
theorem dX7_letters_54 : decode cX7_letters 54 = .ok (.aload_n 0, 1) := by decide +kernel
theorem dX7_letters_55 : decode cX7_letters 55 = .ok (.invokevirtual 34, 3) := by decide +kernel
theorem dX7_letters_58 : decode cX7_letters 58 = .ok (.bipush 97, 2) := by decide +kernel
theorem dX7_letters_60 : decode cX7_letters 60 = .ok (.isub, 1) := by decide +kernel
theorem dX7_letters_61 : decode cX7_letters 61 = .ok (.iconst 1, 1) := by decide +kernel
theorem dX7_letters_62 : decode cX7_letters 62 = .ok (.iadd, 1) := by decide +kernel
theorem dX7_letters_63 : decode cX7_letters 63 = .ok (.iadd, 1) := by decide +kernel
theorem dX7_letters_64 : decode cX7_letters 64 = .ok (.putfield 56, 3) := by decide +kernel
theorem dX7_letters_67 : decode cX7_letters 67 = .ok (.aload_n 0, 1) := by decide +kernel
theorem dX7_letters_68 : decode cX7_letters 68 = .ok (.dup, 1) := by decide +kernel
theorem dX7_letters_69 : decode cX7_letters 69 = .ok (.getfield 23, 3) := by decide +kernel
theorem dX7_letters_72 : decode cX7_letters 72 = .ok (.iconst 1, 1) := by decide +kernel
theorem dX7_letters_73 : decode cX7_letters 73 = .ok (.iadd, 1) := by decide +kernel
theorem dX7_letters_74 : decode cX7_letters 74 = .ok (.putfield 23, 3) := by decide +kernel
theorem dX7_letters_77 : decode cX7_letters 77 = .ok (.iinc 2 1, 3) := by decide +kernel
theorem dX7_letters_80 : decode cX7_letters 80 = .ok (.goto (-68), 3) := by decide +kernel
theorem dX7_letters_83 : decode cX7_letters 83 = .ok (.aload_n 0, 1) := by decide +kernel
theorem dX7_letters_84 : decode cX7_letters 84 = .ok (.getfield 23, 3) := by decide +kernel
theorem dX7_letters_87 : decode cX7_letters 87 = .ok (.iload_n 1, 1) := by decide +kernel
theorem dX7_letters_88 : decode cX7_letters 88 = .ok (.if_icmp .le 7, 3) := by decide +kernel
theorem dX7_letters_91 : decode cX7_letters 91 = .ok (.iconst 1, 1) := by decide +kernel
theorem dX7_letters_92 : decode cX7_letters 92 = .ok (.goto 4, 3) := by decide +kernel
theorem dX7_letters_95 : decode cX7_letters 95 = .ok (.iconst 0, 1) := by decide +kernel
theorem dX7_letters_96 : decode cX7_letters 96 = .ok (.ireturn, 1) := by decide +kernel
theorem dX7_isLetter_0 : decode cX7_isLetter 0 = .ok (.iload_n 0, 1) := by decide +kernel
theorem dX7_isLetter_1 : decode cX7_isLetter 1 = .ok (.bipush 97, 2) := by decide +kernel
theorem dX7_isLetter_3 : decode cX7_isLetter 3 = .ok (.if_icmp .lt 13, 3) := by decide +kernel
theorem dX7_isLetter_6 : decode cX7_isLetter 6 = .ok (.iload_n 0, 1) := by decide +kernel
theorem dX7_isLetter_7 : decode cX7_isLetter 7 = .ok (.bipush 122, 2) := by decide +kernel
theorem dX7_isLetter_9 : decode cX7_isLetter 9 = .ok (.if_icmp .gt 7, 3) := by decide +kernel
theorem dX7_isLetter_12 : decode cX7_isLetter 12 = .ok (.iconst 1, 1) := by decide +kernel
theorem dX7_isLetter_13 : decode cX7_isLetter 13 = .ok (.goto 4, 3) := by decide +kernel
theorem dX7_isLetter_16 : decode cX7_isLetter 16 = .ok (.iconst 0, 1) := by decide +kernel
theorem dX7_isLetter_17 : decode cX7_isLetter 17 = .ok (.ireturn, 1) := by decide +kernel
theorem dX7_here_0 : decode cX7_here 0 = .ok (.aload_n 0, 1) := by decide +kernel
theorem dX7_here_1 : decode cX7_here 1 = .ok (.getfield 23, 3) := by decide +kernel
theorem dX7_here_4 : decode cX7_here 4 = .ok (.ifCond .lt 26, 3) := by decide +kernel
theorem dX7_here_7 : decode cX7_here 7 = .ok (.aload_n 0, 1) := by decide +kernel
theorem dX7_here_8 : decode cX7_here 8 = .ok (.getfield 23, 3) := by decide +kernel
theorem dX7_here_11 : decode cX7_here 11 = .ok (.aload_n 0, 1) := by decide +kernel
theorem dX7_here_12 : decode cX7_here 12 = .ok (.getfield 15, 3) := by decide +kernel
theorem dX7_here_15 : decode cX7_here 15 = .ok (.if_icmp .ge 15, 3) := by decide +kernel
theorem dX7_here_18 : decode cX7_here 18 = .ok (.aload_n 0, 1) := by decide +kernel
theorem dX7_here_19 : decode cX7_here 19 = .ok (.getfield 9, 3) := by decide +kernel
theorem dX7_here_22 : decode cX7_here 22 = .ok (.aload_n 0, 1) := by decide +kernel
theorem dX7_here_23 : decode cX7_here 23 = .ok (.getfield 23, 3) := by decide +kernel
theorem dX7_here_26 : decode cX7_here 26 = .ok (.iaload, 1) := by decide +kernel
theorem dX7_here_27 : decode cX7_here 27 = .ok (.goto 4, 3) := by decide +kernel
theorem dX7_here_30 : decode cX7_here 30 = .ok (.iconst (-1), 1) := by decide +kernel
theorem dX7_here_31 : decode cX7_here 31 = .ok (.ireturn, 1) := by decide +kernel
theorem dX8_init_0 : decode cX8_init 0 = .ok (.aload_n 0, 1) := by decide +kernel
theorem dX8_init_1 : decode cX8_init 1 = .ok (.invokespecial 3, 3) := by decide +kernel
theorem dX8_init_4 : decode cX8_init 4 = .ok (.aload_n 0, 1) := by decide +kernel
theorem dX8_init_5 : decode cX8_init 5 = .ok (.sipush 512, 3) := by decide +kernel
theorem dX8_init_8 : decode cX8_init 8 = .ok (.newarray .int, 2) := by decide +kernel
theorem dX8_init_10 : decode cX8_init 10 = .ok (.putfield 11, 3) := by decide +kernel
theorem dX8_init_13 : decode cX8_init 13 = .ok (.aload_n 0, 1) := by decide +kernel
theorem dX8_init_14 : decode cX8_init 14 = .ok (.sipush 512, 3) := by decide +kernel
theorem dX8_init_17 : decode cX8_init 17 = .ok (.newarray .int, 2) := by decide +kernel
theorem dX8_init_19 : decode cX8_init 19 = .ok (.putfield 15, 3) := by decide +kernel
theorem dX8_init_22 : decode cX8_init 22 = .ok (.return_, 1) := by decide +kernel
theorem dX8_find_0 : decode cX8_find 0 = .ok (.iconst 0, 1) := by decide +kernel
theorem dX8_find_1 : decode cX8_find 1 = .ok (.istore_n 2, 1) := by decide +kernel
theorem dX8_find_2 : decode cX8_find 2 = .ok (.iload_n 2, 1) := by decide +kernel
theorem dX8_find_3 : decode cX8_find 3 = .ok (.aload_n 0, 1) := by decide +kernel
theorem dX8_find_4 : decode cX8_find 4 = .ok (.getfield 18, 3) := by decide +kernel
theorem dX8_find_7 : decode cX8_find 7 = .ok (.if_icmp .ge 21, 3) := by decide +kernel
theorem dX8_find_10 : decode cX8_find 10 = .ok (.aload_n 0, 1) := by decide +kernel
theorem dX8_find_11 : decode cX8_find 11 = .ok (.getfield 11, 3) := by decide +kernel
theorem dX8_find_14 : decode cX8_find 14 = .ok (.iload_n 2, 1) := by decide +kernel
theorem dX8_find_15 : decode cX8_find 15 = .ok (.iaload, 1) := by decide +kernel
theorem dX8_find_16 : decode cX8_find 16 = .ok (.iload_n 1, 1) := by decide +kernel
theorem dX8_find_17 : decode cX8_find 17 = .ok (.if_icmp .ne 5, 3) := by decide +kernel
theorem dX8_find_20 : decode cX8_find 20 = .ok (.iload_n 2, 1) := by decide +kernel
theorem dX8_find_21 : decode cX8_find 21 = .ok (.ireturn, 1) := by decide +kernel
theorem dX8_find_22 : decode cX8_find 22 = .ok (.iinc 2 1, 3) := by decide +kernel
theorem dX8_find_25 : decode cX8_find 25 = .ok (.goto (-23), 3) := by decide +kernel
theorem dX8_find_28 : decode cX8_find 28 = .ok (.iconst (-1), 1) := by decide +kernel
theorem dX8_find_29 : decode cX8_find 29 = .ok (.ireturn, 1) := by decide +kernel
set_option maxRecDepth 20000 in
theorem ggX8_add_X8_find : GoodIn wsX8_add wsX8_find := goodIn_r _ [8, 2, 3, 9, 10, 11, 12] (by decide +kernel) (by decide +kernel)
set_option maxRecDepth 20000 in
theorem gX8_add_X8_find : GoodIn wsX8_add (wsV RX8 22 RX8 yX8_find wsX8_find) := goodIn_app (goodIn_of _ (by decide +kernel)) ggX8_add_X8_find
theorem dX8_add_0 : decode cX8_add 0 = .ok (.aload_n 0, 1) := by decide +kernel
theorem dX8_add_1 : decode cX8_add 1 = .ok (.iload_n 1, 1) := by decide +kernel
theorem dX8_add_2 : decode cX8_add 2 = .ok (.invokevirtual 22, 3) := by decide +kernel
theorem dX8_add_5 : decode cX8_add 5 = .ok (.istore_n 2, 1) := by decide +kernel
theorem dX8_add_6 : decode cX8_add 6 = .ok (.iload_n 2, 1) := by decide +kernel
theorem dX8_add_7 : decode cX8_add 7 = .ok (.ifCond .lt 16, 3) := by decide +kernel
theorem dX8_add_10 : decode cX8_add 10 = .ok (.aload_n 0, 1) := by decide +kernel
theorem dX8_add_11 : decode cX8_add 11 = .ok (.getfield 15, 3) := by decide +kernel
theorem dX8_add_14 : decode cX8_add 14 = .ok (.iload_n 2, 1) := by decide +kernel
theorem dX8_add_15 : decode cX8_add 15 = .ok (.dup2, 1) := by decide +kernel
theorem dX8_add_16 : decode cX8_add 16 = .ok (.iaload, 1) := by decide +kernel
theorem dX8_add_17 : decode cX8_add 17 = .ok (.iconst 1, 1) := by decide +kernel
theorem dX8_add_18 : decode cX8_add 18 = .ok (.iadd, 1) := by decide +kernel
theorem dX8_add_19 : decode cX8_add 19 = .ok (.iastore, 1) := by decide +kernel
theorem dX8_add_20 : decode cX8_add 20 = .ok (.goto 43, 3) := by decide +kernel
theorem dX8_add_23 : decode cX8_add 23 = .ok (.aload_n 0, 1) := by decide +kernel
theorem dX8_add_24 : decode cX8_add 24 = .ok (.getfield 18, 3) := by decide +kernel
theorem dX8_add_27 : decode cX8_add 27 = .ok (.sipush 512, 3) := by decide +kernel
theorem dX8_add_30 : decode cX8_add 30 = .ok (.if_icmp .ge 33, 3) := by decide +kernel
theorem dX8_add_33 : decode cX8_add 33 = .ok (.aload_n 0, 1) := by decide +kernel
theorem dX8_add_34 : decode cX8_add 34 = .ok (.getfield 11, 3) := by decide +kernel
theorem dX8_add_37 : decode cX8_add 37 = .ok (.aload_n 0, 1) := by decide +kernel
theorem dX8_add_38 : decode cX8_add 38 = .ok (.getfield 18, 3) := by decide +kernel
theorem dX8_add_41 : decode cX8_add 41 = .ok (.iload_n 1, 1) := by decide +kernel
theorem dX8_add_42 : decode cX8_add 42 = .ok (.iastore, 1) := by decide +kernel
theorem dX8_add_43 : decode cX8_add 43 = .ok (.aload_n 0, 1) := by decide +kernel
theorem dX8_add_44 : decode cX8_add 44 = .ok (.getfield 15, 3) := by decide +kernel
theorem dX8_add_47 : decode cX8_add 47 = .ok (.aload_n 0, 1) := by decide +kernel
theorem dX8_add_48 : decode cX8_add 48 = .ok (.getfield 18, 3) := by decide +kernel
theorem dX8_add_51 : decode cX8_add 51 = .ok (.iconst 1, 1) := by decide +kernel
theorem dX8_add_52 : decode cX8_add 52 = .ok (.iastore, 1) := by decide +kernel
theorem dX8_add_53 : decode cX8_add 53 = .ok (.aload_n 0, 1) := by decide +kernel
theorem dX8_add_54 : decode cX8_add 54 = .ok (.dup, 1) := by decide +kernel
theorem dX8_add_55 : decode cX8_add 55 = .ok (.getfield 18, 3) := by decide +kernel
theorem dX8_add_58 : decode cX8_add 58 = .ok (.iconst 1, 1) := by decide +kernel
theorem dX8_add_59 : decode cX8_add 59 = .ok (.iadd, 1) := by decide +kernel
theorem dX8_add_60 : decode cX8_add 60 = .ok (.putfield 18, 3) := by decide +kernel
theorem dX8_add_63 : decode cX8_add 63 = .ok (.return_, 1) := by decide +kernel
theorem dX9_init_0 : decode cX9_init 0 = .ok (.aload_n 0, 1) := by decide +kernel
theorem dX9_init_1 : decode cX9_init 1 = .ok (.invokespecial 3, 3) := by decide +kernel
theorem dX9_init_4 : decode cX9_init 4 = .ok (.aload_n 0, 1) := by decide +kernel
theorem dX9_init_5 : decode cX9_init 5 = .ok (.sipush 128, 3) := by decide +kernel
theorem dX9_init_8 : decode cX9_init 8 = .ok (.newarray .boolean, 2) := by decide +kernel
theorem dX9_init_10 : decode cX9_init 10 = .ok (.putfield 9, 3) := by decide +kernel
theorem dX9_init_13 : decode cX9_init 13 = .ok (.aload_n 0, 1) := by decide +kernel
theorem dX9_init_14 : decode cX9_init 14 = .ok (.sipush 128, 3) := by decide +kernel
theorem dX9_init_17 : decode cX9_init 17 = .ok (.newarray .boolean, 2) := by decide +kernel
theorem dX9_init_19 : decode cX9_init 19 = .ok (.putfield 15, 3) := by decide +kernel
theorem dX9_init_22 : decode cX9_init 22 = .ok (.aload_n 0, 1) := by decide +kernel
theorem dX9_init_23 : decode cX9_init 23 = .ok (.bipush 13, 2) := by decide +kernel
theorem dX9_init_25 : decode cX9_init 25 = .ok (.newarray .int, 2) := by decide +kernel
theorem dX9_init_27 : decode cX9_init 27 = .ok (.putfield 18, 3) := by decide +kernel
theorem dX9_init_30 : decode cX9_init 30 = .ok (.aload_n 0, 1) := by decide +kernel
theorem dX9_init_31 : decode cX9_init 31 = .ok (.bipush 13, 2) := by decide +kernel
theorem dX9_init_33 : decode cX9_init 33 = .ok (.newarray .int, 2) := by decide +kernel
theorem dX9_init_35 : decode cX9_init 35 = .ok (.putfield 22, 3) := by decide +kernel
theorem dX9_init_38 : decode cX9_init 38 = .ok (.aload_n 0, 1) := by decide +kernel
theorem dX9_init_39 : decode cX9_init 39 = .ok (.bipush 13, 2) := by decide +kernel
theorem dX9_init_41 : decode cX9_init 41 = .ok (.newarray .int, 2) := by decide +kernel
theorem dX9_init_43 : decode cX9_init 43 = .ok (.putfield 25, 3) := by decide +kernel
theorem dX9_init_46 : decode cX9_init 46 = .ok (.aload_n 0, 1) := by decide +kernel
theorem dX9_init_47 : decode cX9_init 47 = .ok (.bipush 13, 2) := by decide +kernel
theorem dX9_init_49 : decode cX9_init 49 = .ok (.newarray .int, 2) := by decide +kernel
theorem dX9_init_51 : decode cX9_init 51 = .ok (.putfield 28, 3) := by decide +kernel
theorem dX9_init_54 : decode cX9_init 54 = .ok (.return_, 1) := by decide +kernel
set_option maxRecDepth 20000 in
theorem ggX9_make_X9_findClusters : GoodIn wsX9_make wsX9_findClusters := goodIn_r _ [11, 2, 12, 13, 14, 15, 16, 17, 18, 19, 20, 21, 22, 23, 24, 25, 26, 27, 28, 29, 30, 31, 32, 33, 34, 35, 36, 37, 38, 39, 40, 41, 42, 43, 10, 44, 74, 75, 76, 77, 78, 79, 80, 81, 82, 67, 68, 69, 70, 71, 72, 73] (by decide +kernel) (by decide +kernel)
set_option maxRecDepth 20000 in
theorem gX9_make_X9_findClusters : GoodIn wsX9_make (wsV RX9 38 RX9 yX9_findClusters wsX9_findClusters) := goodIn_app (goodIn_of _ (by decide +kernel)) ggX9_make_X9_findClusters
set_option maxRecDepth 20000 in
theorem ggX9_make_X9_findKnots : GoodIn wsX9_make wsX9_findKnots := goodIn_r _ [48, 3, 2, 49, 50, 35, 36, 37, 38, 39, 40, 51, 52, 53, 10, 54, 12, 74, 75, 76, 77, 78, 79, 80, 81, 82] (by decide +kernel) (by decide +kernel)
set_option maxRecDepth 20000 in
theorem gX9_make_X9_findKnots : GoodIn wsX9_make (wsV RX9 42 RX9 yX9_findKnots wsX9_findKnots) := goodIn_app (goodIn_of _ (by decide +kernel)) ggX9_make_X9_findKnots
set_option maxRecDepth 20000 in
theorem ggX9_make_X9_leastAround : GoodIn wsX9_make wsX9_leastAround := goodIn_r _ [58, 3, 49, 74, 75, 76, 77, 78, 79, 80, 81, 82] (by decide +kernel) (by decide +kernel)
set_option maxRecDepth 20000 in
theorem gX9_make_X9_leastAround : GoodIn wsX9_make (wsV RX9 48 RX9 yX9_leastAround wsX9_leastAround) := goodIn_app (goodIn_of _ (by decide +kernel)) ggX9_make_X9_leastAround
set_option maxRecDepth 20000 in
theorem ggX9_make_X9_sortOf : GoodIn wsX9_make wsX9_sortOf := goodIn_r _ [62, 4, 63, 64, 65, 10, 66, 5, 12, 49, 74, 75, 76, 77, 78, 79, 80, 81, 82] (by decide +kernel) (by decide +kernel)
set_option maxRecDepth 20000 in
theorem gX9_make_X9_sortOf : GoodIn wsX9_make (wsV RX9 52 RX9 yX9_sortOf wsX9_sortOf) := goodIn_app (goodIn_of _ (by decide +kernel)) ggX9_make_X9_sortOf
theorem dX9_make_0 : decode cX9_make 0 = .ok (.aload_n 0, 1) := by decide +kernel
theorem dX9_make_1 : decode cX9_make 1 = .ok (.aload_n 1, 1) := by decide +kernel
theorem dX9_make_2 : decode cX9_make 2 = .ok (.getfield 31, 3) := by decide +kernel
theorem dX9_make_5 : decode cX9_make 5 = .ok (.putfield 37, 3) := by decide +kernel
theorem dX9_make_8 : decode cX9_make 8 = .ok (.aload_n 0, 1) := by decide +kernel
theorem dX9_make_9 : decode cX9_make 9 = .ok (.aload_n 1, 1) := by decide +kernel
theorem dX9_make_10 : decode cX9_make 10 = .ok (.invokevirtual 38, 3) := by decide +kernel
theorem dX9_make_13 : decode cX9_make 13 = .ok (.aload_n 0, 1) := by decide +kernel
theorem dX9_make_14 : decode cX9_make 14 = .ok (.invokevirtual 42, 3) := by decide +kernel
theorem dX9_make_17 : decode cX9_make 17 = .ok (.iconst 0, 1) := by decide +kernel
theorem dX9_make_18 : decode cX9_make 18 = .ok (.istore_n 2, 1) := by decide +kernel
theorem dX9_make_19 : decode cX9_make 19 = .ok (.iload_n 2, 1) := by decide +kernel
theorem dX9_make_20 : decode cX9_make 20 = .ok (.aload_n 0, 1) := by decide +kernel
theorem dX9_make_21 : decode cX9_make 21 = .ok (.getfield 45, 3) := by decide +kernel
theorem dX9_make_24 : decode cX9_make 24 = .ok (.if_icmp .ge 16, 3) := by decide +kernel
theorem dX9_make_27 : decode cX9_make 27 = .ok (.aload_n 0, 1) := by decide +kernel
theorem dX9_make_28 : decode cX9_make 28 = .ok (.getfield 25, 3) := by decide +kernel
theorem dX9_make_31 : decode cX9_make 31 = .ok (.iload_n 2, 1) := by decide +kernel
theorem dX9_make_32 : decode cX9_make 32 = .ok (.iconst 0, 1) := by decide +kernel
theorem dX9_make_33 : decode cX9_make 33 = .ok (.iastore, 1) := by decide +kernel
theorem dX9_make_34 : decode cX9_make 34 = .ok (.iinc 2 1, 3) := by decide +kernel
theorem dX9_make_37 : decode cX9_make 37 = .ok (.goto (-18), 3) := by decide +kernel
theorem dX9_make_40 : decode cX9_make 40 = .ok (.iconst 0, 1) := by decide +kernel
theorem dX9_make_41 : decode cX9_make 41 = .ok (.istore_n 2, 1) := by decide +kernel
theorem dX9_make_42 : decode cX9_make 42 = .ok (.iload_n 2, 1) := by decide +kernel
theorem dX9_make_43 : decode cX9_make 43 = .ok (.aload_n 0, 1) := by decide +kernel
theorem dX9_make_44 : decode cX9_make 44 = .ok (.getfield 45, 3) := by decide +kernel
theorem dX9_make_47 : decode cX9_make 47 = .ok (.if_icmp .ge 44, 3) := by decide +kernel
theorem dX9_make_50 : decode cX9_make 50 = .ok (.aload_n 0, 1) := by decide +kernel
theorem dX9_make_51 : decode cX9_make 51 = .ok (.getfield 28, 3) := by decide +kernel
theorem dX9_make_54 : decode cX9_make 54 = .ok (.iload_n 2, 1) := by decide +kernel
theorem dX9_make_55 : decode cX9_make 55 = .ok (.aload_n 0, 1) := by decide +kernel
theorem dX9_make_56 : decode cX9_make 56 = .ok (.iload_n 2, 1) := by decide +kernel
theorem dX9_make_57 : decode cX9_make 57 = .ok (.invokevirtual 48, 3) := by decide +kernel
theorem dX9_make_60 : decode cX9_make 60 = .ok (.iastore, 1) := by decide +kernel
theorem dX9_make_61 : decode cX9_make 61 = .ok (.aload_n 0, 1) := by decide +kernel
theorem dX9_make_62 : decode cX9_make 62 = .ok (.getfield 28, 3) := by decide +kernel
theorem dX9_make_65 : decode cX9_make 65 = .ok (.iload_n 2, 1) := by decide +kernel
theorem dX9_make_66 : decode cX9_make 66 = .ok (.iaload, 1) := by decide +kernel
theorem dX9_make_67 : decode cX9_make 67 = .ok (.ifCond .lt 18, 3) := by decide +kernel
theorem dX9_make_70 : decode cX9_make 70 = .ok (.aload_n 0, 1) := by decide +kernel
theorem dX9_make_71 : decode cX9_make 71 = .ok (.getfield 25, 3) := by decide +kernel
theorem dX9_make_74 : decode cX9_make 74 = .ok (.aload_n 0, 1) := by decide +kernel
theorem dX9_make_75 : decode cX9_make 75 = .ok (.getfield 28, 3) := by decide +kernel
theorem dX9_make_78 : decode cX9_make 78 = .ok (.iload_n 2, 1) := by decide +kernel
theorem dX9_make_79 : decode cX9_make 79 = .ok (.iaload, 1) := by decide +kernel
theorem dX9_make_80 : decode cX9_make 80 = .ok (.dup2, 1) := by decide +kernel
theorem dX9_make_81 : decode cX9_make 81 = .ok (.iaload, 1) := by decide +kernel
theorem dX9_make_82 : decode cX9_make 82 = .ok (.iconst 1, 1) := by decide +kernel
theorem dX9_make_83 : decode cX9_make 83 = .ok (.iadd, 1) := by decide +kernel
theorem dX9_make_84 : decode cX9_make 84 = .ok (.iastore, 1) := by decide +kernel
theorem dX9_make_85 : decode cX9_make 85 = .ok (.iinc 2 1, 3) := by decide +kernel
theorem dX9_make_88 : decode cX9_make 88 = .ok (.goto (-46), 3) := by decide +kernel
theorem dX9_make_91 : decode cX9_make 91 = .ok (.iconst 0, 1) := by decide +kernel
theorem dX9_make_92 : decode cX9_make 92 = .ok (.istore_n 2, 1) := by decide +kernel
theorem dX9_make_93 : decode cX9_make 93 = .ok (.iload_n 2, 1) := by decide +kernel
theorem dX9_make_94 : decode cX9_make 94 = .ok (.aload_n 0, 1) := by decide +kernel
theorem dX9_make_95 : decode cX9_make 95 = .ok (.getfield 45, 3) := by decide +kernel
theorem dX9_make_98 : decode cX9_make 98 = .ok (.if_icmp .ge 20, 3) := by decide +kernel
theorem dX9_make_101 : decode cX9_make 101 = .ok (.aload_n 0, 1) := by decide +kernel
theorem dX9_make_102 : decode cX9_make 102 = .ok (.getfield 22, 3) := by decide +kernel
theorem dX9_make_105 : decode cX9_make 105 = .ok (.iload_n 2, 1) := by decide +kernel
theorem dX9_make_106 : decode cX9_make 106 = .ok (.aload_n 0, 1) := by decide +kernel
theorem dX9_make_107 : decode cX9_make 107 = .ok (.iload_n 2, 1) := by decide +kernel
theorem dX9_make_108 : decode cX9_make 108 = .ok (.invokevirtual 52, 3) := by decide +kernel
theorem dX9_make_111 : decode cX9_make 111 = .ok (.iastore, 1) := by decide +kernel
theorem dX9_make_112 : decode cX9_make 112 = .ok (.iinc 2 1, 3) := by decide +kernel
theorem dX9_make_115 : decode cX9_make 115 = .ok (.goto (-22), 3) := by decide +kernel
theorem dX9_make_118 : decode cX9_make 118 = .ok (.return_, 1) := by decide +kernel
set_option maxRecDepth 20000 in
theorem ggX9_findClusters_X3_isBest : GoodIn wsX9_findClusters wsX3_isBest := goodIn_r _ [9, 10, 11, 12, 13, 8, 14, 15, 16, 17, 18, 19, 20, 21, 22, 23, 24, 25, 26, 27, 28, 29, 30, 45, 46, 47, 48, 49, 50, 51] (by decide +kernel) (by decide +kernel)
set_option maxRecDepth 20000 in
theorem gX9_findClusters_X3_isBest : GoodIn wsX9_findClusters (wsV RX9 55 RX3 yX3_isBest wsX3_isBest) := goodIn_app (goodIn_of _ (by decide +kernel)) ggX9_findClusters_X3_isBest
set_option maxRecDepth 20000 in
theorem ggX9_findClusters_X9_partPassed : GoodIn wsX9_findClusters wsX9_partPassed := goodIn_r _ [35, 1, 2, 36, 37, 38, 39, 40, 41, 42, 43, 44] (by decide +kernel) (by decide +kernel)
set_option maxRecDepth 20000 in
theorem gX9_findClusters_X9_partPassed : GoodIn wsX9_findClusters (wsV RX9 59 RX9 yX9_partPassed wsX9_partPassed) := goodIn_app (goodIn_of _ (by decide +kernel)) ggX9_findClusters_X9_partPassed
theorem dX9_findClusters_0 : decode cX9_findClusters 0 = .ok (.iconst 0, 1) := by decide +kernel
theorem dX9_findClusters_1 : decode cX9_findClusters 1 = .ok (.istore_n 2, 1) := by decide +kernel
theorem dX9_findClusters_2 : decode cX9_findClusters 2 = .ok (.iload_n 2, 1) := by decide +kernel
theorem dX9_findClusters_3 : decode cX9_findClusters 3 = .ok (.aload_n 0, 1) := by decide +kernel
theorem dX9_findClusters_4 : decode cX9_findClusters 4 = .ok (.getfield 37, 3) := by decide +kernel
theorem dX9_findClusters_7 : decode cX9_findClusters 7 = .ok (.if_icmp .gt 39, 3) := by decide +kernel
theorem dX9_findClusters_10 : decode cX9_findClusters 10 = .ok (.aload_n 0, 1) := by decide +kernel
theorem dX9_findClusters_11 : decode cX9_findClusters 11 = .ok (.getfield 9, 3) := by decide +kernel
theorem dX9_findClusters_14 : decode cX9_findClusters 14 = .ok (.iload_n 2, 1) := by decide +kernel
theorem dX9_findClusters_15 : decode cX9_findClusters 15 = .ok (.iload_n 2, 1) := by decide +kernel
theorem dX9_findClusters_16 : decode cX9_findClusters 16 = .ok (.ifCond .eq 7, 3) := by decide +kernel
theorem dX9_findClusters_19 : decode cX9_findClusters 19 = .ok (.iconst 1, 1) := by decide +kernel
theorem dX9_findClusters_20 : decode cX9_findClusters 20 = .ok (.goto 4, 3) := by decide +kernel
theorem dX9_findClusters_23 : decode cX9_findClusters 23 = .ok (.iconst 0, 1) := by decide +kernel
theorem dX9_findClusters_24 : decode cX9_findClusters 24 = .ok (.bastore, 1) := by decide +kernel
theorem dX9_findClusters_25 : decode cX9_findClusters 25 = .ok (.aload_n 0, 1) := by decide +kernel
theorem dX9_findClusters_26 : decode cX9_findClusters 26 = .ok (.getfield 15, 3) := by decide +kernel
theorem dX9_findClusters_29 : decode cX9_findClusters 29 = .ok (.iload_n 2, 1) := by decide +kernel
theorem dX9_findClusters_30 : decode cX9_findClusters 30 = .ok (.iload_n 2, 1) := by decide +kernel
theorem dX9_findClusters_31 : decode cX9_findClusters 31 = .ok (.ifCond .ne 7, 3) := by decide +kernel
theorem dX9_findClusters_34 : decode cX9_findClusters 34 = .ok (.iconst 1, 1) := by decide +kernel
theorem dX9_findClusters_35 : decode cX9_findClusters 35 = .ok (.goto 4, 3) := by decide +kernel
theorem dX9_findClusters_38 : decode cX9_findClusters 38 = .ok (.iconst 0, 1) := by decide +kernel
theorem dX9_findClusters_39 : decode cX9_findClusters 39 = .ok (.bastore, 1) := by decide +kernel
theorem dX9_findClusters_40 : decode cX9_findClusters 40 = .ok (.iinc 2 1, 3) := by decide +kernel
theorem dX9_findClusters_43 : decode cX9_findClusters 43 = .ok (.goto (-41), 3) := by decide +kernel
theorem dX9_findClusters_46 : decode cX9_findClusters 46 = .ok (.iconst 0, 1) := by decide +kernel
theorem dX9_findClusters_47 : decode cX9_findClusters 47 = .ok (.istore_n 2, 1) := by decide +kernel
theorem dX9_findClusters_48 : decode cX9_findClusters 48 = .ok (.iload_n 2, 1) := by decide +kernel
theorem dX9_findClusters_49 : decode cX9_findClusters 49 = .ok (.aload_n 0, 1) := by decide +kernel
theorem dX9_findClusters_50 : decode cX9_findClusters 50 = .ok (.getfield 37, 3) := by decide +kernel
theorem dX9_findClusters_53 : decode cX9_findClusters 53 = .ok (.if_icmp .gt 60, 3) := by decide +kernel
theorem dX9_findClusters_56 : decode cX9_findClusters 56 = .ok (.iconst 0, 1) := by decide +kernel
theorem dX9_findClusters_57 : decode cX9_findClusters 57 = .ok (.istore_n 3, 1) := by decide +kernel
theorem dX9_findClusters_58 : decode cX9_findClusters 58 = .ok (.iload_n 3, 1) := by decide +kernel
theorem dX9_findClusters_59 : decode cX9_findClusters 59 = .ok (.bipush 7, 2) := by decide +kernel
theorem dX9_findClusters_61 : decode cX9_findClusters 61 = .ok (.if_icmp .ge 46, 3) := by decide +kernel
theorem dX9_findClusters_64 : decode cX9_findClusters 64 = .ok (.aload_n 0, 1) := by decide +kernel
theorem dX9_findClusters_65 : decode cX9_findClusters 65 = .ok (.getfield 15, 3) := by decide +kernel
theorem dX9_findClusters_68 : decode cX9_findClusters 68 = .ok (.iload_n 2, 1) := by decide +kernel
theorem dX9_findClusters_69 : decode cX9_findClusters 69 = .ok (.baload, 1) := by decide +kernel
theorem dX9_findClusters_70 : decode cX9_findClusters 70 = .ok (.ifCond .eq 31, 3) := by decide +kernel
theorem dX9_findClusters_73 : decode cX9_findClusters 73 = .ok (.aload_n 1, 1) := by decide +kernel
theorem dX9_findClusters_74 : decode cX9_findClusters 74 = .ok (.iload_n 2, 1) := by decide +kernel
theorem dX9_findClusters_75 : decode cX9_findClusters 75 = .ok (.iload_n 3, 1) := by decide +kernel
theorem dX9_findClusters_76 : decode cX9_findClusters 76 = .ok (.invokevirtual 55, 3) := by decide +kernel
theorem dX9_findClusters_79 : decode cX9_findClusters 79 = .ok (.ifCond .eq 22, 3) := by decide +kernel
theorem dX9_findClusters_82 : decode cX9_findClusters 82 = .ok (.aload_n 0, 1) := by decide +kernel
theorem dX9_findClusters_83 : decode cX9_findClusters 83 = .ok (.getfield 15, 3) := by decide +kernel
theorem dX9_findClusters_86 : decode cX9_findClusters 86 = .ok (.iload_n 2, 1) := by decide +kernel
theorem dX9_findClusters_87 : decode cX9_findClusters 87 = .ok (.iconst 1, 1) := by decide +kernel
theorem dX9_findClusters_88 : decode cX9_findClusters 88 = .ok (.iload_n 3, 1) := by decide +kernel
theorem dX9_findClusters_89 : decode cX9_findClusters 89 = .ok (.ishl, 1) := by decide +kernel
theorem dX9_findClusters_90 : decode cX9_findClusters 90 = .ok (.ior, 1) := by decide +kernel
theorem dX9_findClusters_91 : decode cX9_findClusters 91 = .ok (.iconst 1, 1) := by decide +kernel
theorem dX9_findClusters_92 : decode cX9_findClusters 92 = .ok (.bastore, 1) := by decide +kernel
theorem dX9_findClusters_93 : decode cX9_findClusters 93 = .ok (.aload_n 0, 1) := by decide +kernel
theorem dX9_findClusters_94 : decode cX9_findClusters 94 = .ok (.iload_n 2, 1) := by decide +kernel
theorem dX9_findClusters_95 : decode cX9_findClusters 95 = .ok (.iconst 1, 1) := by decide +kernel
theorem dX9_findClusters_96 : decode cX9_findClusters 96 = .ok (.iload_n 3, 1) := by decide +kernel
theorem dX9_findClusters_97 : decode cX9_findClusters 97 = .ok (.ishl, 1) := by decide +kernel
theorem dX9_findClusters_98 : decode cX9_findClusters 98 = .ok (.invokevirtual 59, 3) := by decide +kernel
theorem dX9_findClusters_101 : decode cX9_findClusters 101 = .ok (.iinc 3 1, 3) := by decide +kernel
theorem dX9_findClusters_104 : decode cX9_findClusters 104 = .ok (.goto (-46), 3) := by decide +kernel
theorem dX9_findClusters_107 : decode cX9_findClusters 107 = .ok (.iinc 2 1, 3) := by decide +kernel
theorem dX9_findClusters_110 : decode cX9_findClusters 110 = .ok (.goto (-62), 3) := by decide +kernel
theorem dX9_findClusters_113 : decode cX9_findClusters 113 = .ok (.aload_n 0, 1) := by decide +kernel
theorem dX9_findClusters_114 : decode cX9_findClusters 114 = .ok (.iconst 0, 1) := by decide +kernel
theorem dX9_findClusters_115 : decode cX9_findClusters 115 = .ok (.putfield 63, 3) := by decide +kernel
theorem dX9_findClusters_118 : decode cX9_findClusters 118 = .ok (.iconst 1, 1) := by decide +kernel
theorem dX9_findClusters_119 : decode cX9_findClusters 119 = .ok (.istore_n 2, 1) := by decide +kernel
theorem dX9_findClusters_120 : decode cX9_findClusters 120 = .ok (.iload_n 2, 1) := by decide +kernel
theorem dX9_findClusters_121 : decode cX9_findClusters 121 = .ok (.aload_n 0, 1) := by decide +kernel
theorem dX9_findClusters_122 : decode cX9_findClusters 122 = .ok (.getfield 37, 3) := by decide +kernel
theorem dX9_findClusters_125 : decode cX9_findClusters 125 = .ok (.if_icmp .gt 28, 3) := by decide +kernel
theorem dX9_findClusters_128 : decode cX9_findClusters 128 = .ok (.aload_n 0, 1) := by decide +kernel
theorem dX9_findClusters_129 : decode cX9_findClusters 129 = .ok (.getfield 9, 3) := by decide +kernel
theorem dX9_findClusters_132 : decode cX9_findClusters 132 = .ok (.iload_n 2, 1) := by decide +kernel
theorem dX9_findClusters_133 : decode cX9_findClusters 133 = .ok (.baload, 1) := by decide +kernel
theorem dX9_findClusters_134 : decode cX9_findClusters 134 = .ok (.ifCond .eq 13, 3) := by decide +kernel
theorem dX9_findClusters_137 : decode cX9_findClusters 137 = .ok (.aload_n 0, 1) := by decide +kernel
theorem dX9_findClusters_138 : decode cX9_findClusters 138 = .ok (.dup, 1) := by decide +kernel
theorem dX9_findClusters_139 : decode cX9_findClusters 139 = .ok (.getfield 63, 3) := by decide +kernel
theorem dX9_findClusters_142 : decode cX9_findClusters 142 = .ok (.iconst 1, 1) := by decide +kernel
theorem dX9_findClusters_143 : decode cX9_findClusters 143 = .ok (.iadd, 1) := by decide +kernel
theorem dX9_findClusters_144 : decode cX9_findClusters 144 = .ok (.putfield 63, 3) := by decide +kernel
theorem dX9_findClusters_147 : decode cX9_findClusters 147 = .ok (.iinc 2 1, 3) := by decide +kernel
theorem dX9_findClusters_150 : decode cX9_findClusters 150 = .ok (.goto (-30), 3) := by decide +kernel
theorem dX9_findClusters_153 : decode cX9_findClusters 153 = .ok (.return_, 1) := by decide +kernel
theorem dX9_partPassed_0 : decode cX9_partPassed 0 = .ok (.aload_n 0, 1) := by decide +kernel
theorem dX9_partPassed_1 : decode cX9_partPassed 1 = .ok (.getfield 37, 3) := by decide +kernel
theorem dX9_partPassed_4 : decode cX9_partPassed 4 = .ok (.iload_n 1, 1) := by decide +kernel
theorem dX9_partPassed_5 : decode cX9_partPassed 5 = .ok (.iconst (-1), 1) := by decide +kernel
theorem dX9_partPassed_6 : decode cX9_partPassed 6 = .ok (.ixor, 1) := by decide +kernel
theorem dX9_partPassed_7 : decode cX9_partPassed 7 = .ok (.iand, 1) := by decide +kernel
theorem dX9_partPassed_8 : decode cX9_partPassed 8 = .ok (.iload_n 2, 1) := by decide +kernel
theorem dX9_partPassed_9 : decode cX9_partPassed 9 = .ok (.iconst (-1), 1) := by decide +kernel
theorem dX9_partPassed_10 : decode cX9_partPassed 10 = .ok (.ixor, 1) := by decide +kernel
theorem dX9_partPassed_11 : decode cX9_partPassed 11 = .ok (.iand, 1) := by decide +kernel
theorem dX9_partPassed_12 : decode cX9_partPassed 12 = .ok (.istore_n 3, 1) := by decide +kernel
theorem dX9_partPassed_13 : decode cX9_partPassed 13 = .ok (.iconst 1, 1) := by decide +kernel
theorem dX9_partPassed_14 : decode cX9_partPassed 14 = .ok (.istore 4, 2) := by decide +kernel
theorem dX9_partPassed_16 : decode cX9_partPassed 16 = .ok (.iload 4, 2) := by decide +kernel
theorem dX9_partPassed_18 : decode cX9_partPassed 18 = .ok (.aload_n 0, 1) := by decide +kernel
theorem dX9_partPassed_19 : decode cX9_partPassed 19 = .ok (.getfield 37, 3) := by decide +kernel
theorem dX9_partPassed_22 : decode cX9_partPassed 22 = .ok (.if_icmp .gt 38, 3) := by decide +kernel
theorem dX9_partPassed_25 : decode cX9_partPassed 25 = .ok (.iload 4, 2) := by decide +kernel
theorem dX9_partPassed_27 : decode cX9_partPassed 27 = .ok (.iload_n 2, 1) := by decide +kernel
theorem dX9_partPassed_28 : decode cX9_partPassed 28 = .ok (.iand, 1) := by decide +kernel
theorem dX9_partPassed_29 : decode cX9_partPassed 29 = .ok (.ifCond .ne 25, 3) := by decide +kernel
theorem dX9_partPassed_32 : decode cX9_partPassed 32 = .ok (.iload 4, 2) := by decide +kernel
theorem dX9_partPassed_34 : decode cX9_partPassed 34 = .ok (.iload_n 1, 1) := by decide +kernel
theorem dX9_partPassed_35 : decode cX9_partPassed 35 = .ok (.iand, 1) := by decide +kernel
theorem dX9_partPassed_36 : decode cX9_partPassed 36 = .ok (.ifCond .eq 18, 3) := by decide +kernel
theorem dX9_partPassed_39 : decode cX9_partPassed 39 = .ok (.iload 4, 2) := by decide +kernel
theorem dX9_partPassed_41 : decode cX9_partPassed 41 = .ok (.iload_n 3, 1) := by decide +kernel
theorem dX9_partPassed_42 : decode cX9_partPassed 42 = .ok (.iand, 1) := by decide +kernel
theorem dX9_partPassed_43 : decode cX9_partPassed 43 = .ok (.ifCond .eq 11, 3) := by decide +kernel
theorem dX9_partPassed_46 : decode cX9_partPassed 46 = .ok (.aload_n 0, 1) := by decide +kernel
theorem dX9_partPassed_47 : decode cX9_partPassed 47 = .ok (.getfield 9, 3) := by decide +kernel
theorem dX9_partPassed_50 : decode cX9_partPassed 50 = .ok (.iload 4, 2) := by decide +kernel
theorem dX9_partPassed_52 : decode cX9_partPassed 52 = .ok (.iconst 0, 1) := by decide +kernel
theorem dX9_partPassed_53 : decode cX9_partPassed 53 = .ok (.bastore, 1) := by decide +kernel
theorem dX9_partPassed_54 : decode cX9_partPassed 54 = .ok (.iinc 4 1, 3) := by decide +kernel
theorem dX9_partPassed_57 : decode cX9_partPassed 57 = .ok (.goto (-41), 3) := by decide +kernel
theorem dX9_partPassed_60 : decode cX9_partPassed 60 = .ok (.return_, 1) := by decide +kernel
set_option maxRecDepth 20000 in
theorem ggX9_findKnots_J6_bitCount_0f7a4 : GoodIn wsX9_findKnots wsJ6_bitCount_0f7a4 := goodIn_r _ [7, 8, 9, 10] (by decide +kernel) (by decide +kernel)
set_option maxRecDepth 20000 in
theorem gX9_findKnots_J6_bitCount_0f7a4 : GoodIn wsX9_findKnots (va_wsS RX9 66 yJ6_bitCount_0f7a4 wsJ6_bitCount_0f7a4) := goodIn_app (goodIn_of _ (by decide +kernel)) ggX9_findKnots_J6_bitCount_0f7a4
set_option maxRecDepth 20000 in
theorem ggX9_findKnots_X9_isKnot : GoodIn wsX9_findKnots wsX9_isKnot := goodIn_r _ [15, 16, 2, 17, 18, 19, 20, 21, 22, 23, 24, 25] (by decide +kernel) (by decide +kernel)
set_option maxRecDepth 20000 in
theorem gX9_findKnots_X9_isKnot : GoodIn wsX9_findKnots (wsV RX9 71 RX9 yX9_isKnot wsX9_isKnot) := goodIn_app (goodIn_of _ (by decide +kernel)) ggX9_findKnots_X9_isKnot
theorem dX9_findKnots_0 : decode cX9_findKnots 0 = .ok (.aload_n 0, 1) := by decide +kernel
theorem dX9_findKnots_1 : decode cX9_findKnots 1 = .ok (.iconst 0, 1) := by decide +kernel
theorem dX9_findKnots_2 : decode cX9_findKnots 2 = .ok (.putfield 45, 3) := by decide +kernel
theorem dX9_findKnots_5 : decode cX9_findKnots 5 = .ok (.iconst 1, 1) := by decide +kernel
theorem dX9_findKnots_6 : decode cX9_findKnots 6 = .ok (.istore_n 1, 1) := by decide +kernel
theorem dX9_findKnots_7 : decode cX9_findKnots 7 = .ok (.iload_n 1, 1) := by decide +kernel
theorem dX9_findKnots_8 : decode cX9_findKnots 8 = .ok (.bipush 7, 2) := by decide +kernel
theorem dX9_findKnots_10 : decode cX9_findKnots 10 = .ok (.if_icmp .gt 70, 3) := by decide +kernel
theorem dX9_findKnots_13 : decode cX9_findKnots 13 = .ok (.iconst 1, 1) := by decide +kernel
theorem dX9_findKnots_14 : decode cX9_findKnots 14 = .ok (.istore_n 2, 1) := by decide +kernel
theorem dX9_findKnots_15 : decode cX9_findKnots 15 = .ok (.iload_n 2, 1) := by decide +kernel
theorem dX9_findKnots_16 : decode cX9_findKnots 16 = .ok (.aload_n 0, 1) := by decide +kernel
theorem dX9_findKnots_17 : decode cX9_findKnots 17 = .ok (.getfield 37, 3) := by decide +kernel
theorem dX9_findKnots_20 : decode cX9_findKnots 20 = .ok (.if_icmp .gt 54, 3) := by decide +kernel
theorem dX9_findKnots_23 : decode cX9_findKnots 23 = .ok (.iload_n 2, 1) := by decide +kernel
theorem dX9_findKnots_24 : decode cX9_findKnots 24 = .ok (.invokestatic 66, 3) := by decide +kernel
theorem dX9_findKnots_27 : decode cX9_findKnots 27 = .ok (.iload_n 1, 1) := by decide +kernel
theorem dX9_findKnots_28 : decode cX9_findKnots 28 = .ok (.if_icmp .ne 40, 3) := by decide +kernel
theorem dX9_findKnots_31 : decode cX9_findKnots 31 = .ok (.aload_n 0, 1) := by decide +kernel
theorem dX9_findKnots_32 : decode cX9_findKnots 32 = .ok (.iload_n 2, 1) := by decide +kernel
theorem dX9_findKnots_33 : decode cX9_findKnots 33 = .ok (.invokevirtual 71, 3) := by decide +kernel
theorem dX9_findKnots_36 : decode cX9_findKnots 36 = .ok (.ifCond .eq 32, 3) := by decide +kernel
theorem dX9_findKnots_39 : decode cX9_findKnots 39 = .ok (.aload_n 0, 1) := by decide +kernel
theorem dX9_findKnots_40 : decode cX9_findKnots 40 = .ok (.getfield 45, 3) := by decide +kernel
theorem dX9_findKnots_43 : decode cX9_findKnots 43 = .ok (.bipush 13, 2) := by decide +kernel
theorem dX9_findKnots_45 : decode cX9_findKnots 45 = .ok (.if_icmp .ge 23, 3) := by decide +kernel
theorem dX9_findKnots_48 : decode cX9_findKnots 48 = .ok (.aload_n 0, 1) := by decide +kernel
theorem dX9_findKnots_49 : decode cX9_findKnots 49 = .ok (.getfield 18, 3) := by decide +kernel
theorem dX9_findKnots_52 : decode cX9_findKnots 52 = .ok (.aload_n 0, 1) := by decide +kernel
theorem dX9_findKnots_53 : decode cX9_findKnots 53 = .ok (.getfield 45, 3) := by decide +kernel
theorem dX9_findKnots_56 : decode cX9_findKnots 56 = .ok (.iload_n 2, 1) := by decide +kernel
theorem dX9_findKnots_57 : decode cX9_findKnots 57 = .ok (.iastore, 1) := by decide +kernel
theorem dX9_findKnots_58 : decode cX9_findKnots 58 = .ok (.aload_n 0, 1) := by decide +kernel
theorem dX9_findKnots_59 : decode cX9_findKnots 59 = .ok (.dup, 1) := by decide +kernel
theorem dX9_findKnots_60 : decode cX9_findKnots 60 = .ok (.getfield 45, 3) := by decide +kernel
theorem dX9_findKnots_63 : decode cX9_findKnots 63 = .ok (.iconst 1, 1) := by decide +kernel
theorem dX9_findKnots_64 : decode cX9_findKnots 64 = .ok (.iadd, 1) := by decide +kernel
theorem dX9_findKnots_65 : decode cX9_findKnots 65 = .ok (.putfield 45, 3) := by decide +kernel
theorem dX9_findKnots_68 : decode cX9_findKnots 68 = .ok (.iinc 2 1, 3) := by decide +kernel
theorem dX9_findKnots_71 : decode cX9_findKnots 71 = .ok (.goto (-56), 3) := by decide +kernel
theorem dX9_findKnots_74 : decode cX9_findKnots 74 = .ok (.iinc 1 1, 3) := by decide +kernel
theorem dX9_findKnots_77 : decode cX9_findKnots 77 = .ok (.goto (-70), 3) := by decide +kernel
theorem dX9_findKnots_80 : decode cX9_findKnots 80 = .ok (.return_, 1) := by decide +kernel
theorem dX9_isKnot_0 : decode cX9_isKnot 0 = .ok (.aload_n 0, 1) := by decide +kernel
theorem dX9_isKnot_1 : decode cX9_isKnot 1 = .ok (.getfield 9, 3) := by decide +kernel
theorem dX9_isKnot_4 : decode cX9_isKnot 4 = .ok (.iload_n 1, 1) := by decide +kernel
theorem dX9_isKnot_5 : decode cX9_isKnot 5 = .ok (.baload, 1) := by decide +kernel
theorem dX9_isKnot_6 : decode cX9_isKnot 6 = .ok (.ifCond .ne 5, 3) := by decide +kernel
theorem dX9_isKnot_9 : decode cX9_isKnot 9 = .ok (.iconst 0, 1) := by decide +kernel
theorem dX9_isKnot_10 : decode cX9_isKnot 10 = .ok (.ireturn, 1) := by decide +kernel
theorem dX9_isKnot_11 : decode cX9_isKnot 11 = .ok (.iconst 1, 1) := by decide +kernel
theorem dX9_isKnot_12 : decode cX9_isKnot 12 = .ok (.istore_n 2, 1) := by decide +kernel
theorem dX9_isKnot_13 : decode cX9_isKnot 13 = .ok (.iload_n 2, 1) := by decide +kernel
theorem dX9_isKnot_14 : decode cX9_isKnot 14 = .ok (.aload_n 0, 1) := by decide +kernel
theorem dX9_isKnot_15 : decode cX9_isKnot 15 = .ok (.getfield 37, 3) := by decide +kernel
theorem dX9_isKnot_18 : decode cX9_isKnot 18 = .ok (.if_icmp .gt 42, 3) := by decide +kernel
theorem dX9_isKnot_21 : decode cX9_isKnot 21 = .ok (.aload_n 0, 1) := by decide +kernel
theorem dX9_isKnot_22 : decode cX9_isKnot 22 = .ok (.getfield 9, 3) := by decide +kernel
theorem dX9_isKnot_25 : decode cX9_isKnot 25 = .ok (.iload_n 2, 1) := by decide +kernel
theorem dX9_isKnot_26 : decode cX9_isKnot 26 = .ok (.baload, 1) := by decide +kernel
theorem dX9_isKnot_27 : decode cX9_isKnot 27 = .ok (.ifCond .eq 27, 3) := by decide +kernel
theorem dX9_isKnot_30 : decode cX9_isKnot 30 = .ok (.iload_n 1, 1) := by decide +kernel
theorem dX9_isKnot_31 : decode cX9_isKnot 31 = .ok (.iload_n 2, 1) := by decide +kernel
theorem dX9_isKnot_32 : decode cX9_isKnot 32 = .ok (.iand, 1) := by decide +kernel
theorem dX9_isKnot_33 : decode cX9_isKnot 33 = .ok (.ifCond .eq 21, 3) := by decide +kernel
theorem dX9_isKnot_36 : decode cX9_isKnot 36 = .ok (.iload_n 1, 1) := by decide +kernel
theorem dX9_isKnot_37 : decode cX9_isKnot 37 = .ok (.iload_n 2, 1) := by decide +kernel
theorem dX9_isKnot_38 : decode cX9_isKnot 38 = .ok (.iconst (-1), 1) := by decide +kernel
theorem dX9_isKnot_39 : decode cX9_isKnot 39 = .ok (.ixor, 1) := by decide +kernel
theorem dX9_isKnot_40 : decode cX9_isKnot 40 = .ok (.iand, 1) := by decide +kernel
theorem dX9_isKnot_41 : decode cX9_isKnot 41 = .ok (.ifCond .eq 13, 3) := by decide +kernel
theorem dX9_isKnot_44 : decode cX9_isKnot 44 = .ok (.iload_n 2, 1) := by decide +kernel
theorem dX9_isKnot_45 : decode cX9_isKnot 45 = .ok (.iload_n 1, 1) := by decide +kernel
theorem dX9_isKnot_46 : decode cX9_isKnot 46 = .ok (.iconst (-1), 1) := by decide +kernel
theorem dX9_isKnot_47 : decode cX9_isKnot 47 = .ok (.ixor, 1) := by decide +kernel
theorem dX9_isKnot_48 : decode cX9_isKnot 48 = .ok (.iand, 1) := by decide +kernel
theorem dX9_isKnot_49 : decode cX9_isKnot 49 = .ok (.ifCond .eq 5, 3) := by decide +kernel
theorem dX9_isKnot_52 : decode cX9_isKnot 52 = .ok (.iconst 0, 1) := by decide +kernel
theorem dX9_isKnot_53 : decode cX9_isKnot 53 = .ok (.ireturn, 1) := by decide +kernel
theorem dX9_isKnot_54 : decode cX9_isKnot 54 = .ok (.iinc 2 1, 3) := by decide +kernel
theorem dX9_isKnot_57 : decode cX9_isKnot 57 = .ok (.goto (-44), 3) := by decide +kernel
theorem dX9_isKnot_60 : decode cX9_isKnot 60 = .ok (.iconst 1, 1) := by decide +kernel
theorem dX9_isKnot_61 : decode cX9_isKnot 61 = .ok (.ireturn, 1) := by decide +kernel
theorem dX9_leastAround_0 : decode cX9_leastAround 0 = .ok (.iload_n 1, 1) := by decide +kernel
theorem dX9_leastAround_1 : decode cX9_leastAround 1 = .ok (.iconst 1, 1) := by decide +kernel
theorem dX9_leastAround_2 : decode cX9_leastAround 2 = .ok (.iadd, 1) := by decide +kernel
theorem dX9_leastAround_3 : decode cX9_leastAround 3 = .ok (.istore_n 2, 1) := by decide +kernel
theorem dX9_leastAround_4 : decode cX9_leastAround 4 = .ok (.iload_n 2, 1) := by decide +kernel
theorem dX9_leastAround_5 : decode cX9_leastAround 5 = .ok (.aload_n 0, 1) := by decide +kernel
theorem dX9_leastAround_6 : decode cX9_leastAround 6 = .ok (.getfield 45, 3) := by decide +kernel
theorem dX9_leastAround_9 : decode cX9_leastAround 9 = .ok (.if_icmp .ge 29, 3) := by decide +kernel
theorem dX9_leastAround_12 : decode cX9_leastAround 12 = .ok (.aload_n 0, 1) := by decide +kernel
theorem dX9_leastAround_13 : decode cX9_leastAround 13 = .ok (.getfield 18, 3) := by decide +kernel
theorem dX9_leastAround_16 : decode cX9_leastAround 16 = .ok (.iload_n 1, 1) := by decide +kernel
theorem dX9_leastAround_17 : decode cX9_leastAround 17 = .ok (.iaload, 1) := by decide +kernel
theorem dX9_leastAround_18 : decode cX9_leastAround 18 = .ok (.aload_n 0, 1) := by decide +kernel
theorem dX9_leastAround_19 : decode cX9_leastAround 19 = .ok (.getfield 18, 3) := by decide +kernel
theorem dX9_leastAround_22 : decode cX9_leastAround 22 = .ok (.iload_n 2, 1) := by decide +kernel
theorem dX9_leastAround_23 : decode cX9_leastAround 23 = .ok (.iaload, 1) := by decide +kernel
theorem dX9_leastAround_24 : decode cX9_leastAround 24 = .ok (.iconst (-1), 1) := by decide +kernel
theorem dX9_leastAround_25 : decode cX9_leastAround 25 = .ok (.ixor, 1) := by decide +kernel
theorem dX9_leastAround_26 : decode cX9_leastAround 26 = .ok (.iand, 1) := by decide +kernel
theorem dX9_leastAround_27 : decode cX9_leastAround 27 = .ok (.ifCond .ne 5, 3) := by decide +kernel
theorem dX9_leastAround_30 : decode cX9_leastAround 30 = .ok (.iload_n 2, 1) := by decide +kernel
theorem dX9_leastAround_31 : decode cX9_leastAround 31 = .ok (.ireturn, 1) := by decide +kernel
theorem dX9_leastAround_32 : decode cX9_leastAround 32 = .ok (.iinc 2 1, 3) := by decide +kernel
theorem dX9_leastAround_35 : decode cX9_leastAround 35 = .ok (.goto (-31), 3) := by decide +kernel
theorem dX9_leastAround_38 : decode cX9_leastAround 38 = .ok (.iconst (-1), 1) := by decide +kernel
theorem dX9_leastAround_39 : decode cX9_leastAround 39 = .ok (.ireturn, 1) := by decide +kernel
set_option maxRecDepth 20000 in
theorem ggX9_sortOf_X9_hasPair : GoodIn wsX9_sortOf wsX9_hasPair := goodIn_r _ [6, 7, 8, 9, 10, 11, 12, 13, 14, 15, 16, 17, 18] (by decide +kernel) (by decide +kernel)
set_option maxRecDepth 20000 in
theorem gX9_sortOf_X9_hasPair : GoodIn wsX9_sortOf (wsV RX9 75 RX9 yX9_hasPair wsX9_hasPair) := goodIn_app (goodIn_of _ (by decide +kernel)) ggX9_sortOf_X9_hasPair
theorem dX9_sortOf_0 : decode cX9_sortOf 0 = .ok (.aload_n 0, 1) := by decide +kernel
theorem dX9_sortOf_1 : decode cX9_sortOf 1 = .ok (.getfield 25, 3) := by decide +kernel
theorem dX9_sortOf_4 : decode cX9_sortOf 4 = .ok (.iload_n 1, 1) := by decide +kernel
theorem dX9_sortOf_5 : decode cX9_sortOf 5 = .ok (.iaload, 1) := by decide +kernel
theorem dX9_sortOf_6 : decode cX9_sortOf 6 = .ok (.iconst 2, 1) := by decide +kernel
theorem dX9_sortOf_7 : decode cX9_sortOf 7 = .ok (.if_icmp .ge 5, 3) := by decide +kernel
theorem dX9_sortOf_10 : decode cX9_sortOf 10 = .ok (.iconst 0, 1) := by decide +kernel
theorem dX9_sortOf_11 : decode cX9_sortOf 11 = .ok (.ireturn, 1) := by decide +kernel
theorem dX9_sortOf_12 : decode cX9_sortOf 12 = .ok (.aload_n 0, 1) := by decide +kernel
theorem dX9_sortOf_13 : decode cX9_sortOf 13 = .ok (.getfield 25, 3) := by decide +kernel
theorem dX9_sortOf_16 : decode cX9_sortOf 16 = .ok (.iload_n 1, 1) := by decide +kernel
theorem dX9_sortOf_17 : decode cX9_sortOf 17 = .ok (.iaload, 1) := by decide +kernel
theorem dX9_sortOf_18 : decode cX9_sortOf 18 = .ok (.iconst 2, 1) := by decide +kernel
theorem dX9_sortOf_19 : decode cX9_sortOf 19 = .ok (.if_icmp .le 15, 3) := by decide +kernel
theorem dX9_sortOf_22 : decode cX9_sortOf 22 = .ok (.aload_n 0, 1) := by decide +kernel
theorem dX9_sortOf_23 : decode cX9_sortOf 23 = .ok (.iload_n 1, 1) := by decide +kernel
theorem dX9_sortOf_24 : decode cX9_sortOf 24 = .ok (.invokevirtual 75, 3) := by decide +kernel
theorem dX9_sortOf_27 : decode cX9_sortOf 27 = .ok (.ifCond .eq 7, 3) := by decide +kernel
theorem dX9_sortOf_30 : decode cX9_sortOf 30 = .ok (.iconst 2, 1) := by decide +kernel
theorem dX9_sortOf_31 : decode cX9_sortOf 31 = .ok (.goto 4, 3) := by decide +kernel
theorem dX9_sortOf_34 : decode cX9_sortOf 34 = .ok (.iconst 1, 1) := by decide +kernel
theorem dX9_sortOf_35 : decode cX9_sortOf 35 = .ok (.ireturn, 1) := by decide +kernel
theorem dX9_hasPair_0 : decode cX9_hasPair 0 = .ok (.iconst 0, 1) := by decide +kernel
theorem dX9_hasPair_1 : decode cX9_hasPair 1 = .ok (.istore_n 2, 1) := by decide +kernel
theorem dX9_hasPair_2 : decode cX9_hasPair 2 = .ok (.iload_n 2, 1) := by decide +kernel
theorem dX9_hasPair_3 : decode cX9_hasPair 3 = .ok (.iload_n 1, 1) := by decide +kernel
theorem dX9_hasPair_4 : decode cX9_hasPair 4 = .ok (.if_icmp .ge 65, 3) := by decide +kernel
theorem dX9_hasPair_7 : decode cX9_hasPair 7 = .ok (.iconst 0, 1) := by decide +kernel
theorem dX9_hasPair_8 : decode cX9_hasPair 8 = .ok (.istore_n 3, 1) := by decide +kernel
theorem dX9_hasPair_9 : decode cX9_hasPair 9 = .ok (.iload_n 3, 1) := by decide +kernel
theorem dX9_hasPair_10 : decode cX9_hasPair 10 = .ok (.iload_n 2, 1) := by decide +kernel
theorem dX9_hasPair_11 : decode cX9_hasPair 11 = .ok (.if_icmp .ge 52, 3) := by decide +kernel
theorem dX9_hasPair_14 : decode cX9_hasPair 14 = .ok (.aload_n 0, 1) := by decide +kernel
theorem dX9_hasPair_15 : decode cX9_hasPair 15 = .ok (.getfield 28, 3) := by decide +kernel
theorem dX9_hasPair_18 : decode cX9_hasPair 18 = .ok (.iload_n 2, 1) := by decide +kernel
theorem dX9_hasPair_19 : decode cX9_hasPair 19 = .ok (.iaload, 1) := by decide +kernel
theorem dX9_hasPair_20 : decode cX9_hasPair 20 = .ok (.iload_n 1, 1) := by decide +kernel
theorem dX9_hasPair_21 : decode cX9_hasPair 21 = .ok (.if_icmp .ne 36, 3) := by decide +kernel
theorem dX9_hasPair_24 : decode cX9_hasPair 24 = .ok (.aload_n 0, 1) := by decide +kernel
theorem dX9_hasPair_25 : decode cX9_hasPair 25 = .ok (.getfield 28, 3) := by decide +kernel
theorem dX9_hasPair_28 : decode cX9_hasPair 28 = .ok (.iload_n 3, 1) := by decide +kernel
theorem dX9_hasPair_29 : decode cX9_hasPair 29 = .ok (.iaload, 1) := by decide +kernel
theorem dX9_hasPair_30 : decode cX9_hasPair 30 = .ok (.iload_n 1, 1) := by decide +kernel
theorem dX9_hasPair_31 : decode cX9_hasPair 31 = .ok (.if_icmp .ne 26, 3) := by decide +kernel
theorem dX9_hasPair_34 : decode cX9_hasPair 34 = .ok (.aload_n 0, 1) := by decide +kernel
theorem dX9_hasPair_35 : decode cX9_hasPair 35 = .ok (.getfield 9, 3) := by decide +kernel
theorem dX9_hasPair_38 : decode cX9_hasPair 38 = .ok (.aload_n 0, 1) := by decide +kernel
theorem dX9_hasPair_39 : decode cX9_hasPair 39 = .ok (.getfield 18, 3) := by decide +kernel
theorem dX9_hasPair_42 : decode cX9_hasPair 42 = .ok (.iload_n 2, 1) := by decide +kernel
theorem dX9_hasPair_43 : decode cX9_hasPair 43 = .ok (.iaload, 1) := by decide +kernel
theorem dX9_hasPair_44 : decode cX9_hasPair 44 = .ok (.aload_n 0, 1) := by decide +kernel
theorem dX9_hasPair_45 : decode cX9_hasPair 45 = .ok (.getfield 18, 3) := by decide +kernel
theorem dX9_hasPair_48 : decode cX9_hasPair 48 = .ok (.iload_n 3, 1) := by decide +kernel
theorem dX9_hasPair_49 : decode cX9_hasPair 49 = .ok (.iaload, 1) := by decide +kernel
theorem dX9_hasPair_50 : decode cX9_hasPair 50 = .ok (.ior, 1) := by decide +kernel
theorem dX9_hasPair_51 : decode cX9_hasPair 51 = .ok (.baload, 1) := by decide +kernel
theorem dX9_hasPair_52 : decode cX9_hasPair 52 = .ok (.ifCond .eq 5, 3) := by decide +kernel
theorem dX9_hasPair_55 : decode cX9_hasPair 55 = .ok (.iconst 1, 1) := by decide +kernel
theorem dX9_hasPair_56 : decode cX9_hasPair 56 = .ok (.ireturn, 1) := by decide +kernel
theorem dX9_hasPair_57 : decode cX9_hasPair 57 = .ok (.iinc 3 1, 3) := by decide +kernel
theorem dX9_hasPair_60 : decode cX9_hasPair 60 = .ok (.goto (-51), 3) := by decide +kernel
theorem dX9_hasPair_63 : decode cX9_hasPair 63 = .ok (.iinc 2 1, 3) := by decide +kernel
theorem dX9_hasPair_66 : decode cX9_hasPair 66 = .ok (.goto (-64), 3) := by decide +kernel
theorem dX9_hasPair_69 : decode cX9_hasPair 69 = .ok (.iconst 0, 1) := by decide +kernel
theorem dX9_hasPair_70 : decode cX9_hasPair 70 = .ok (.ireturn, 1) := by decide +kernel
theorem dX9_ofSort_0 : decode cX9_ofSort 0 = .ok (.iconst 0, 1) := by decide +kernel
theorem dX9_ofSort_1 : decode cX9_ofSort 1 = .ok (.istore_n 2, 1) := by decide +kernel
theorem dX9_ofSort_2 : decode cX9_ofSort 2 = .ok (.iconst 0, 1) := by decide +kernel
theorem dX9_ofSort_3 : decode cX9_ofSort 3 = .ok (.istore_n 3, 1) := by decide +kernel
theorem dX9_ofSort_4 : decode cX9_ofSort 4 = .ok (.iload_n 3, 1) := by decide +kernel
theorem dX9_ofSort_5 : decode cX9_ofSort 5 = .ok (.aload_n 0, 1) := by decide +kernel
theorem dX9_ofSort_6 : decode cX9_ofSort 6 = .ok (.getfield 45, 3) := by decide +kernel
theorem dX9_ofSort_9 : decode cX9_ofSort 9 = .ok (.if_icmp .ge 22, 3) := by decide +kernel
theorem dX9_ofSort_12 : decode cX9_ofSort 12 = .ok (.aload_n 0, 1) := by decide +kernel
theorem dX9_ofSort_13 : decode cX9_ofSort 13 = .ok (.getfield 22, 3) := by decide +kernel
theorem dX9_ofSort_16 : decode cX9_ofSort 16 = .ok (.iload_n 3, 1) := by decide +kernel
theorem dX9_ofSort_17 : decode cX9_ofSort 17 = .ok (.iaload, 1) := by decide +kernel
theorem dX9_ofSort_18 : decode cX9_ofSort 18 = .ok (.iload_n 1, 1) := by decide +kernel
theorem dX9_ofSort_19 : decode cX9_ofSort 19 = .ok (.if_icmp .ne 6, 3) := by decide +kernel
theorem dX9_ofSort_22 : decode cX9_ofSort 22 = .ok (.iinc 2 1, 3) := by decide +kernel
theorem dX9_ofSort_25 : decode cX9_ofSort 25 = .ok (.iinc 3 1, 3) := by decide +kernel
theorem dX9_ofSort_28 : decode cX9_ofSort 28 = .ok (.goto (-24), 3) := by decide +kernel
theorem dX9_ofSort_31 : decode cX9_ofSort 31 = .ok (.iload_n 2, 1) := by decide +kernel
theorem dX9_ofSort_32 : decode cX9_ofSort 32 = .ok (.ireturn, 1) := by decide +kernel
theorem dX9_product_0 : decode cX9_product 0 = .ok (.lconst 1, 1) := by decide +kernel
theorem dX9_product_1 : decode cX9_product 1 = .ok (.lstore_n 1, 1) := by decide +kernel
theorem dX9_product_2 : decode cX9_product 2 = .ok (.iconst 0, 1) := by decide +kernel
theorem dX9_product_3 : decode cX9_product 3 = .ok (.istore_n 3, 1) := by decide +kernel
theorem dX9_product_4 : decode cX9_product 4 = .ok (.iload_n 3, 1) := by decide +kernel
theorem dX9_product_5 : decode cX9_product 5 = .ok (.aload_n 0, 1) := by decide +kernel
theorem dX9_product_6 : decode cX9_product 6 = .ok (.getfield 45, 3) := by decide +kernel
theorem dX9_product_9 : decode cX9_product 9 = .ok (.if_icmp .ge 61, 3) := by decide +kernel
theorem dX9_product_12 : decode cX9_product 12 = .ok (.iconst 2, 1) := by decide +kernel
theorem dX9_product_13 : decode cX9_product 13 = .ok (.istore 4, 2) := by decide +kernel
theorem dX9_product_15 : decode cX9_product 15 = .ok (.iload 4, 2) := by decide +kernel
theorem dX9_product_17 : decode cX9_product 17 = .ok (.aload_n 0, 1) := by decide +kernel
theorem dX9_product_18 : decode cX9_product 18 = .ok (.getfield 25, 3) := by decide +kernel
theorem dX9_product_21 : decode cX9_product 21 = .ok (.iload_n 3, 1) := by decide +kernel
theorem dX9_product_22 : decode cX9_product 22 = .ok (.iaload, 1) := by decide +kernel
theorem dX9_product_23 : decode cX9_product 23 = .ok (.if_icmp .gt 25, 3) := by decide +kernel
theorem dX9_product_26 : decode cX9_product 26 = .ok (.aload_n 0, 1) := by decide +kernel
theorem dX9_product_27 : decode cX9_product 27 = .ok (.getfield 22, 3) := by decide +kernel
theorem dX9_product_30 : decode cX9_product 30 = .ok (.iload_n 3, 1) := by decide +kernel
theorem dX9_product_31 : decode cX9_product 31 = .ok (.iaload, 1) := by decide +kernel
theorem dX9_product_32 : decode cX9_product 32 = .ok (.iconst 1, 1) := by decide +kernel
theorem dX9_product_33 : decode cX9_product 33 = .ok (.if_icmp .ne 15, 3) := by decide +kernel
theorem dX9_product_36 : decode cX9_product 36 = .ok (.lload_n 1, 1) := by decide +kernel
theorem dX9_product_37 : decode cX9_product 37 = .ok (.iload 4, 2) := by decide +kernel
theorem dX9_product_39 : decode cX9_product 39 = .ok (.i2l, 1) := by decide +kernel
theorem dX9_product_40 : decode cX9_product 40 = .ok (.lmul, 1) := by decide +kernel
theorem dX9_product_41 : decode cX9_product 41 = .ok (.lstore_n 1, 1) := by decide +kernel
theorem dX9_product_42 : decode cX9_product 42 = .ok (.iinc 4 1, 3) := by decide +kernel
theorem dX9_product_45 : decode cX9_product 45 = .ok (.goto (-30), 3) := by decide +kernel
theorem dX9_product_48 : decode cX9_product 48 = .ok (.aload_n 0, 1) := by decide +kernel
theorem dX9_product_49 : decode cX9_product 49 = .ok (.getfield 22, 3) := by decide +kernel
theorem dX9_product_52 : decode cX9_product 52 = .ok (.iload_n 3, 1) := by decide +kernel
theorem dX9_product_53 : decode cX9_product 53 = .ok (.iaload, 1) := by decide +kernel
theorem dX9_product_54 : decode cX9_product 54 = .ok (.iconst 2, 1) := by decide +kernel
theorem dX9_product_55 : decode cX9_product 55 = .ok (.if_icmp .ne 9, 3) := by decide +kernel
theorem dX9_product_58 : decode cX9_product 58 = .ok (.lload_n 1, 1) := by decide +kernel
theorem dX9_product_59 : decode cX9_product 59 = .ok (.ldc2_w 78, 3) := by decide +kernel
theorem dX9_product_62 : decode cX9_product 62 = .ok (.lmul, 1) := by decide +kernel
theorem dX9_product_63 : decode cX9_product 63 = .ok (.lstore_n 1, 1) := by decide +kernel
theorem dX9_product_64 : decode cX9_product 64 = .ok (.iinc 3 1, 3) := by decide +kernel
theorem dX9_product_67 : decode cX9_product 67 = .ok (.goto (-63), 3) := by decide +kernel
theorem dX9_product_70 : decode cX9_product 70 = .ok (.lload_n 1, 1) := by decide +kernel
theorem dX9_product_71 : decode cX9_product 71 = .ok (.lreturn, 1) := by decide +kernel
set_option maxRecDepth 20000 in
theorem ggX10_init_X5_init : GoodIn wsX10_init wsX5_init := goodIn_r _ [46, 47, 2, 3, 39, 48, 49, 50, 96, 97, 98, 99, 100] (by decide +kernel) (by decide +kernel)
set_option maxRecDepth 20000 in
theorem gX10_init_X5_init_n13 : GoodIn wsX10_init (wsX5_init) := ggX10_init_X5_init
set_option maxRecDepth 20000 in
theorem ggX10_init_X3_init : GoodIn wsX10_init wsX3_init := goodIn_r _ [52, 53, 2, 3, 39, 54, 55, 56, 57, 119, 120, 121, 122, 123, 124, 125] (by decide +kernel) (by decide +kernel)
set_option maxRecDepth 20000 in
theorem gX10_init_X3_init_n26 : GoodIn wsX10_init (wsX3_init) := ggX10_init_X3_init
set_option maxRecDepth 20000 in
theorem ggX10_init_X6_init : GoodIn wsX10_init wsX6_init := goodIn_r _ [59, 60, 2, 3, 61, 39, 62, 126] (by decide +kernel) (by decide +kernel)
set_option maxRecDepth 20000 in
theorem gX10_init_X6_init_n36 : GoodIn wsX10_init (wsX6_init) := ggX10_init_X6_init
set_option maxRecDepth 20000 in
theorem ggX10_init_X0_init : GoodIn wsX10_init wsX0_init := goodIn_r _ [64, 65, 2, 3, 66, 39, 67, 127, 128] (by decide +kernel) (by decide +kernel)
set_option maxRecDepth 20000 in
theorem gX10_init_X0_init_n43 : GoodIn wsX10_init (wsX0_init) := ggX10_init_X0_init
set_option maxRecDepth 20000 in
theorem ggX10_init_X9_init : GoodIn wsX10_init wsX9_init := goodIn_r _ [69, 70, 2, 3, 71, 72, 73, 39, 74, 75, 76, 77, 129, 130, 131, 132, 133, 134, 135, 136, 137] (by decide +kernel) (by decide +kernel)
set_option maxRecDepth 20000 in
theorem gX10_init_X9_init_n50 : GoodIn wsX10_init (wsX9_init) := ggX10_init_X9_init
set_option maxRecDepth 20000 in
theorem ggX10_init_X7_init : GoodIn wsX10_init wsX7_init := goodIn_r _ [79, 80, 2, 3, 39, 81, 138, 139, 140, 141, 142, 143] (by decide +kernel) (by decide +kernel)
set_option maxRecDepth 20000 in
theorem gX10_init_X7_init_n57 : GoodIn wsX10_init (wsX7_init) := ggX10_init_X7_init
set_option maxRecDepth 20000 in
theorem ggX10_init_X4_init : GoodIn wsX10_init wsX4_init := goodIn_r _ [83, 84, 2, 3, 39, 85, 144, 145] (by decide +kernel) (by decide +kernel)
set_option maxRecDepth 20000 in
theorem gX10_init_X4_init_n64 : GoodIn wsX10_init (wsX4_init) := ggX10_init_X4_init
set_option maxRecDepth 20000 in
theorem ggX10_init_X8_init : GoodIn wsX10_init wsX8_init := goodIn_r _ [87, 88, 2, 3, 39, 89, 90, 146, 147, 148, 149] (by decide +kernel) (by decide +kernel)
set_option maxRecDepth 20000 in
theorem gX10_init_X8_init_n85 : GoodIn wsX10_init (wsX8_init) := ggX10_init_X8_init
set_option maxRecDepth 20000 in
theorem ggX10_init_X1_init : GoodIn wsX10_init wsX1_init := goodIn_r _ [92, 93, 2, 3, 94, 39, 95, 150, 151] (by decide +kernel) (by decide +kernel)
set_option maxRecDepth 20000 in
theorem gX10_init_X1_init_n86 : GoodIn wsX10_init (wsX1_init) := ggX10_init_X1_init
