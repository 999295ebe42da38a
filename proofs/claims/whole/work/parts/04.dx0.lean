theorem dX0_init_0 : decode cX0_init 0 = .ok (.aload_n 0, 1) := by decide +kernel
theorem dX0_init_1 : decode cX0_init 1 = .ok (.invokespecial 1, 3) := by decide +kernel
theorem dX0_init_4 : decode cX0_init 4 = .ok (.aload_n 0, 1) := by decide +kernel
theorem dX0_init_5 : decode cX0_init 5 = .ok (.iconst 1, 1) := by decide +kernel
theorem dX0_init_6 : decode cX0_init 6 = .ok (.putfield 7, 3) := by decide +kernel
theorem dX0_init_9 : decode cX0_init 9 = .ok (.aload_n 0, 1) := by decide +kernel
theorem dX0_init_10 : decode cX0_init 10 = .ok (.iconst 0, 1) := by decide +kernel
theorem dX0_init_11 : decode cX0_init 11 = .ok (.putfield 13, 3) := by decide +kernel
theorem dX0_init_14 : decode cX0_init 14 = .ok (.aload_n 0, 1) := by decide +kernel
theorem dX0_init_15 : decode cX0_init 15 = .ok (.bipush 12, 2) := by decide +kernel
theorem dX0_init_17 : decode cX0_init 17 = .ok (.newarray .int, 2) := by decide +kernel
theorem dX0_init_19 : decode cX0_init 19 = .ok (.putfield 16, 3) := by decide +kernel
theorem dX0_init_22 : decode cX0_init 22 = .ok (.aload_n 0, 1) := by decide +kernel
theorem dX0_init_23 : decode cX0_init 23 = .ok (.bipush 6, 2) := by decide +kernel
theorem dX0_init_25 : decode cX0_init 25 = .ok (.newarray .double, 2) := by decide +kernel
theorem dX0_init_27 : decode cX0_init 27 = .ok (.putfield 20, 3) := by decide +kernel
theorem dX0_init_30 : decode cX0_init 30 = .ok (.aload_n 0, 1) := by decide +kernel
theorem dX0_init_31 : decode cX0_init 31 = .ok (.bipush 6, 2) := by decide +kernel
theorem dX0_init_33 : decode cX0_init 33 = .ok (.bipush 6, 2) := by decide +kernel
theorem dX0_init_35 : decode cX0_init 35 = .ok (.multianewarray 24 2, 4) := by decide +kernel
theorem dX0_init_39 : decode cX0_init 39 = .ok (.putfield 26, 3) := by decide +kernel
theorem dX0_init_42 : decode cX0_init 42 = .ok (.aload_n 0, 1) := by decide +kernel
theorem dX0_init_43 : decode cX0_init 43 = .ok (.bipush 6, 2) := by decide +kernel
theorem dX0_init_45 : decode cX0_init 45 = .ok (.iconst 4, 1) := by decide +kernel
theorem dX0_init_46 : decode cX0_init 46 = .ok (.multianewarray 24 2, 4) := by decide +kernel
theorem dX0_init_50 : decode cX0_init 50 = .ok (.putfield 29, 3) := by decide +kernel
theorem dX0_init_53 : decode cX0_init 53 = .ok (.aload_n 0, 1) := by decide +kernel
theorem dX0_init_54 : decode cX0_init 54 = .ok (.bipush 12, 2) := by decide +kernel
theorem dX0_init_56 : decode cX0_init 56 = .ok (.bipush 6, 2) := by decide +kernel
theorem dX0_init_58 : decode cX0_init 58 = .ok (.multianewarray 24 2, 4) := by decide +kernel
theorem dX0_init_62 : decode cX0_init 62 = .ok (.putfield 32, 3) := by decide +kernel
theorem dX0_init_65 : decode cX0_init 65 = .ok (.aload_n 0, 1) := by decide +kernel
theorem dX0_init_66 : decode cX0_init 66 = .ok (.bipush 12, 2) := by decide +kernel
theorem dX0_init_68 : decode cX0_init 68 = .ok (.bipush 6, 2) := by decide +kernel
theorem dX0_init_70 : decode cX0_init 70 = .ok (.multianewarray 24 2, 4) := by decide +kernel
theorem dX0_init_74 : decode cX0_init 74 = .ok (.putfield 35, 3) := by decide +kernel
theorem dX0_init_77 : decode cX0_init 77 = .ok (.aload_n 0, 1) := by decide +kernel
theorem dX0_init_78 : decode cX0_init 78 = .ok (.bipush 12, 2) := by decide +kernel
theorem dX0_init_80 : decode cX0_init 80 = .ok (.bipush 6, 2) := by decide +kernel
theorem dX0_init_82 : decode cX0_init 82 = .ok (.multianewarray 24 2, 4) := by decide +kernel
theorem dX0_init_86 : decode cX0_init 86 = .ok (.putfield 38, 3) := by decide +kernel
theorem dX0_init_89 : decode cX0_init 89 = .ok (.aload_n 0, 1) := by decide +kernel
theorem dX0_init_90 : decode cX0_init 90 = .ok (.bipush 12, 2) := by decide +kernel
theorem dX0_init_92 : decode cX0_init 92 = .ok (.bipush 6, 2) := by decide +kernel
theorem dX0_init_94 : decode cX0_init 94 = .ok (.multianewarray 41 2, 4) := by decide +kernel
theorem dX0_init_98 : decode cX0_init 98 = .ok (.putfield 43, 3) := by decide +kernel
theorem dX0_init_101 : decode cX0_init 101 = .ok (.aload_n 0, 1) := by decide +kernel
theorem dX0_init_102 : decode cX0_init 102 = .ok (.bipush 12, 2) := by decide +kernel
theorem dX0_init_104 : decode cX0_init 104 = .ok (.bipush 6, 2) := by decide +kernel
theorem dX0_init_106 : decode cX0_init 106 = .ok (.multianewarray 46 2, 4) := by decide +kernel
theorem dX0_init_110 : decode cX0_init 110 = .ok (.putfield 48, 3) := by decide +kernel
theorem dX0_init_113 : decode cX0_init 113 = .ok (.return_, 1) := by decide +kernel
set_option maxRecDepth 20000 in
theorem ggX0_states_X0_clearWeights : GoodIn wsX0_states wsX0_clearWeights := goodIn_r _ [7, 8, 9, 10, 11, 12, 13, 14, 15, 16, 17, 18, 19, 20, 21] (by decide +kernel) (by decide +kernel)
set_option maxRecDepth 20000 in
theorem gX0_states_X0_clearWeights : GoodIn wsX0_states (wsV RX0 51 RX0 yX0_clearWeights wsX0_clearWeights) := goodIn_app (goodIn_of _ (by decide +kernel)) ggX0_states_X0_clearWeights
theorem dX0_states_0 : decode cX0_states 0 = .ok (.iload_n 1, 1) := by decide +kernel
theorem dX0_states_1 : decode cX0_states 1 = .ok (.iconst 1, 1) := by decide +kernel
theorem dX0_states_2 : decode cX0_states 2 = .ok (.if_icmp .lt 9, 3) := by decide +kernel
theorem dX0_states_5 : decode cX0_states 5 = .ok (.iload_n 1, 1) := by decide +kernel
theorem dX0_states_6 : decode cX0_states 6 = .ok (.bipush 6, 2) := by decide +kernel
theorem dX0_states_8 : decode cX0_states 8 = .ok (.if_icmp .le 5, 3) := by decide +kernel
theorem dX0_states_11 : decode cX0_states 11 = .ok (.iconst 0, 1) := by decide +kernel
theorem dX0_states_12 : decode cX0_states 12 = .ok (.ireturn, 1) := by decide +kernel
theorem dX0_states_13 : decode cX0_states 13 = .ok (.aload_n 0, 1) := by decide +kernel
theorem dX0_states_14 : decode cX0_states 14 = .ok (.iload_n 1, 1) := by decide +kernel
theorem dX0_states_15 : decode cX0_states 15 = .ok (.putfield 7, 3) := by decide +kernel
theorem dX0_states_18 : decode cX0_states 18 = .ok (.aload_n 0, 1) := by decide +kernel
theorem dX0_states_19 : decode cX0_states 19 = .ok (.iconst 0, 1) := by decide +kernel
theorem dX0_states_20 : decode cX0_states 20 = .ok (.putfield 13, 3) := by decide +kernel
theorem dX0_states_23 : decode cX0_states 23 = .ok (.aload_n 0, 1) := by decide +kernel
theorem dX0_states_24 : decode cX0_states 24 = .ok (.invokevirtual 51, 3) := by decide +kernel
theorem dX0_states_27 : decode cX0_states 27 = .ok (.iconst 1, 1) := by decide +kernel
theorem dX0_states_28 : decode cX0_states 28 = .ok (.ireturn, 1) := by decide +kernel
theorem dX0_size_0 : decode cX0_size 0 = .ok (.aload_n 0, 1) := by decide +kernel
theorem dX0_size_1 : decode cX0_size 1 = .ok (.getfield 7, 3) := by decide +kernel
theorem dX0_size_4 : decode cX0_size 4 = .ok (.ireturn, 1) := by decide +kernel
set_option maxRecDepth 20000 in
theorem ggX0_start_X0_isState : GoodIn wsX0_start wsX0_isState := goodIn_r _ [6, 7, 11, 12, 13, 14, 15, 16, 17, 18, 19, 20, 21] (by decide +kernel) (by decide +kernel)
set_option maxRecDepth 20000 in
theorem gX0_start_X0_isState : GoodIn wsX0_start (wsV RX0 54 RX0 yX0_isState wsX0_isState) := goodIn_app (goodIn_of _ (by decide +kernel)) ggX0_start_X0_isState
set_option maxRecDepth 20000 in
theorem ggX0_start_X0_isWeight : GoodIn wsX0_start wsX0_isWeight := goodIn_r _ [10] (by decide +kernel) (by decide +kernel)
set_option maxRecDepth 20000 in
theorem gX0_start_X0_isWeight : GoodIn wsX0_start (va_wsS RX0 58 yX0_isWeight wsX0_isWeight) := goodIn_app (goodIn_of _ (by decide +kernel)) ggX0_start_X0_isWeight
theorem dX0_start_0 : decode cX0_start 0 = .ok (.aload_n 0, 1) := by decide +kernel
theorem dX0_start_1 : decode cX0_start 1 = .ok (.iload_n 1, 1) := by decide +kernel
theorem dX0_start_2 : decode cX0_start 2 = .ok (.invokevirtual 54, 3) := by decide +kernel
theorem dX0_start_5 : decode cX0_start 5 = .ok (.ifCond .eq 10, 3) := by decide +kernel
theorem dX0_start_8 : decode cX0_start 8 = .ok (.dload_n 2, 1) := by decide +kernel
theorem dX0_start_9 : decode cX0_start 9 = .ok (.invokestatic 58, 3) := by decide +kernel
theorem dX0_start_12 : decode cX0_start 12 = .ok (.ifCond .ne 5, 3) := by decide +kernel
theorem dX0_start_15 : decode cX0_start 15 = .ok (.iconst 0, 1) := by decide +kernel
theorem dX0_start_16 : decode cX0_start 16 = .ok (.ireturn, 1) := by decide +kernel
theorem dX0_start_17 : decode cX0_start 17 = .ok (.aload_n 0, 1) := by decide +kernel
theorem dX0_start_18 : decode cX0_start 18 = .ok (.getfield 20, 3) := by decide +kernel
theorem dX0_start_21 : decode cX0_start 21 = .ok (.iload_n 1, 1) := by decide +kernel
theorem dX0_start_22 : decode cX0_start 22 = .ok (.dload_n 2, 1) := by decide +kernel
theorem dX0_start_23 : decode cX0_start 23 = .ok (.dastore, 1) := by decide +kernel
theorem dX0_start_24 : decode cX0_start 24 = .ok (.iconst 1, 1) := by decide +kernel
theorem dX0_start_25 : decode cX0_start 25 = .ok (.ireturn, 1) := by decide +kernel
set_option maxRecDepth 20000 in
theorem ggX0_move_X0_isState : GoodIn wsX0_move wsX0_isState := goodIn_r _ [6, 7, 11, 12, 13, 14, 15, 16, 17, 18, 19, 20, 21] (by decide +kernel) (by decide +kernel)
set_option maxRecDepth 20000 in
theorem gX0_move_X0_isState : GoodIn wsX0_move (wsV RX0 54 RX0 yX0_isState wsX0_isState) := goodIn_app (goodIn_of _ (by decide +kernel)) ggX0_move_X0_isState
set_option maxRecDepth 20000 in
theorem ggX0_move_X0_isWeight : GoodIn wsX0_move wsX0_isWeight := goodIn_r _ [10] (by decide +kernel) (by decide +kernel)
set_option maxRecDepth 20000 in
theorem gX0_move_X0_isWeight : GoodIn wsX0_move (va_wsS RX0 58 yX0_isWeight wsX0_isWeight) := goodIn_app (goodIn_of _ (by decide +kernel)) ggX0_move_X0_isWeight
theorem dX0_move_0 : decode cX0_move 0 = .ok (.aload_n 0, 1) := by decide +kernel
theorem dX0_move_1 : decode cX0_move 1 = .ok (.iload_n 1, 1) := by decide +kernel
theorem dX0_move_2 : decode cX0_move 2 = .ok (.invokevirtual 54, 3) := by decide +kernel
theorem dX0_move_5 : decode cX0_move 5 = .ok (.ifCond .eq 18, 3) := by decide +kernel
theorem dX0_move_8 : decode cX0_move 8 = .ok (.aload_n 0, 1) := by decide +kernel
theorem dX0_move_9 : decode cX0_move 9 = .ok (.iload_n 2, 1) := by decide +kernel
theorem dX0_move_10 : decode cX0_move 10 = .ok (.invokevirtual 54, 3) := by decide +kernel
theorem dX0_move_13 : decode cX0_move 13 = .ok (.ifCond .eq 10, 3) := by decide +kernel
theorem dX0_move_16 : decode cX0_move 16 = .ok (.dload_n 3, 1) := by decide +kernel
theorem dX0_move_17 : decode cX0_move 17 = .ok (.invokestatic 58, 3) := by decide +kernel
theorem dX0_move_20 : decode cX0_move 20 = .ok (.ifCond .ne 5, 3) := by decide +kernel
theorem dX0_move_23 : decode cX0_move 23 = .ok (.iconst 0, 1) := by decide +kernel
theorem dX0_move_24 : decode cX0_move 24 = .ok (.ireturn, 1) := by decide +kernel
theorem dX0_move_25 : decode cX0_move 25 = .ok (.aload_n 0, 1) := by decide +kernel
theorem dX0_move_26 : decode cX0_move 26 = .ok (.getfield 26, 3) := by decide +kernel
theorem dX0_move_29 : decode cX0_move 29 = .ok (.iload_n 1, 1) := by decide +kernel
theorem dX0_move_30 : decode cX0_move 30 = .ok (.aaload, 1) := by decide +kernel
theorem dX0_move_31 : decode cX0_move 31 = .ok (.iload_n 2, 1) := by decide +kernel
theorem dX0_move_32 : decode cX0_move 32 = .ok (.dload_n 3, 1) := by decide +kernel
theorem dX0_move_33 : decode cX0_move 33 = .ok (.dastore, 1) := by decide +kernel
theorem dX0_move_34 : decode cX0_move 34 = .ok (.iconst 1, 1) := by decide +kernel
theorem dX0_move_35 : decode cX0_move 35 = .ok (.ireturn, 1) := by decide +kernel
set_option maxRecDepth 20000 in
theorem ggX0_show_X0_isState : GoodIn wsX0_show wsX0_isState := goodIn_r _ [6, 7, 14, 15, 16, 17, 18, 19, 20, 21, 22, 23, 24] (by decide +kernel) (by decide +kernel)
set_option maxRecDepth 20000 in
theorem gX0_show_X0_isState : GoodIn wsX0_show (wsV RX0 54 RX0 yX0_isState wsX0_isState) := goodIn_app (goodIn_of _ (by decide +kernel)) ggX0_show_X0_isState
set_option maxRecDepth 20000 in
theorem ggX0_show_X0_isSymbol : GoodIn wsX0_show wsX0_isSymbol := goodIn_r _ [10] (by decide +kernel) (by decide +kernel)
set_option maxRecDepth 20000 in
theorem gX0_show_X0_isSymbol : GoodIn wsX0_show (va_wsS RX0 62 yX0_isSymbol wsX0_isSymbol) := goodIn_app (goodIn_of _ (by decide +kernel)) ggX0_show_X0_isSymbol
set_option maxRecDepth 20000 in
theorem ggX0_show_X0_isWeight : GoodIn wsX0_show wsX0_isWeight := goodIn_r _ [13] (by decide +kernel) (by decide +kernel)
set_option maxRecDepth 20000 in
theorem gX0_show_X0_isWeight : GoodIn wsX0_show (va_wsS RX0 58 yX0_isWeight wsX0_isWeight) := goodIn_app (goodIn_of _ (by decide +kernel)) ggX0_show_X0_isWeight
theorem dX0_show_0 : decode cX0_show 0 = .ok (.aload_n 0, 1) := by decide +kernel
theorem dX0_show_1 : decode cX0_show 1 = .ok (.iload_n 1, 1) := by decide +kernel
theorem dX0_show_2 : decode cX0_show 2 = .ok (.invokevirtual 54, 3) := by decide +kernel
theorem dX0_show_5 : decode cX0_show 5 = .ok (.ifCond .eq 17, 3) := by decide +kernel
theorem dX0_show_8 : decode cX0_show 8 = .ok (.iload_n 2, 1) := by decide +kernel
theorem dX0_show_9 : decode cX0_show 9 = .ok (.invokestatic 62, 3) := by decide +kernel
theorem dX0_show_12 : decode cX0_show 12 = .ok (.ifCond .eq 10, 3) := by decide +kernel
theorem dX0_show_15 : decode cX0_show 15 = .ok (.dload_n 3, 1) := by decide +kernel
theorem dX0_show_16 : decode cX0_show 16 = .ok (.invokestatic 58, 3) := by decide +kernel
theorem dX0_show_19 : decode cX0_show 19 = .ok (.ifCond .ne 5, 3) := by decide +kernel
theorem dX0_show_22 : decode cX0_show 22 = .ok (.iconst 0, 1) := by decide +kernel
theorem dX0_show_23 : decode cX0_show 23 = .ok (.ireturn, 1) := by decide +kernel
theorem dX0_show_24 : decode cX0_show 24 = .ok (.aload_n 0, 1) := by decide +kernel
theorem dX0_show_25 : decode cX0_show 25 = .ok (.getfield 29, 3) := by decide +kernel
theorem dX0_show_28 : decode cX0_show 28 = .ok (.iload_n 1, 1) := by decide +kernel
theorem dX0_show_29 : decode cX0_show 29 = .ok (.aaload, 1) := by decide +kernel
theorem dX0_show_30 : decode cX0_show 30 = .ok (.iload_n 2, 1) := by decide +kernel
theorem dX0_show_31 : decode cX0_show 31 = .ok (.dload_n 3, 1) := by decide +kernel
theorem dX0_show_32 : decode cX0_show 32 = .ok (.dastore, 1) := by decide +kernel
theorem dX0_show_33 : decode cX0_show 33 = .ok (.iconst 1, 1) := by decide +kernel
theorem dX0_show_34 : decode cX0_show 34 = .ok (.ireturn, 1) := by decide +kernel
set_option maxRecDepth 20000 in
theorem ggX0_read_X0_isSymbol : GoodIn wsX0_read wsX0_isSymbol := goodIn_r _ [6] (by decide +kernel) (by decide +kernel)
set_option maxRecDepth 20000 in
theorem gX0_read_X0_isSymbol : GoodIn wsX0_read (va_wsS RX0 62 yX0_isSymbol wsX0_isSymbol) := goodIn_app (goodIn_of _ (by decide +kernel)) ggX0_read_X0_isSymbol
theorem dX0_read_0 : decode cX0_read 0 = .ok (.iload_n 1, 1) := by decide +kernel
theorem dX0_read_1 : decode cX0_read 1 = .ok (.invokestatic 62, 3) := by decide +kernel
theorem dX0_read_4 : decode cX0_read 4 = .ok (.ifCond .eq 12, 3) := by decide +kernel
theorem dX0_read_7 : decode cX0_read 7 = .ok (.aload_n 0, 1) := by decide +kernel
theorem dX0_read_8 : decode cX0_read 8 = .ok (.getfield 13, 3) := by decide +kernel
theorem dX0_read_11 : decode cX0_read 11 = .ok (.bipush 12, 2) := by decide +kernel
theorem dX0_read_13 : decode cX0_read 13 = .ok (.if_icmp .lt 5, 3) := by decide +kernel
theorem dX0_read_16 : decode cX0_read 16 = .ok (.iconst 0, 1) := by decide +kernel
theorem dX0_read_17 : decode cX0_read 17 = .ok (.ireturn, 1) := by decide +kernel
theorem dX0_read_18 : decode cX0_read 18 = .ok (.aload_n 0, 1) := by decide +kernel
theorem dX0_read_19 : decode cX0_read 19 = .ok (.getfield 16, 3) := by decide +kernel
theorem dX0_read_22 : decode cX0_read 22 = .ok (.aload_n 0, 1) := by decide +kernel
theorem dX0_read_23 : decode cX0_read 23 = .ok (.getfield 13, 3) := by decide +kernel
theorem dX0_read_26 : decode cX0_read 26 = .ok (.iload_n 1, 1) := by decide +kernel
theorem dX0_read_27 : decode cX0_read 27 = .ok (.iastore, 1) := by decide +kernel
theorem dX0_read_28 : decode cX0_read 28 = .ok (.aload_n 0, 1) := by decide +kernel
theorem dX0_read_29 : decode cX0_read 29 = .ok (.dup, 1) := by decide +kernel
theorem dX0_read_30 : decode cX0_read 30 = .ok (.getfield 13, 3) := by decide +kernel
theorem dX0_read_33 : decode cX0_read 33 = .ok (.iconst 1, 1) := by decide +kernel
theorem dX0_read_34 : decode cX0_read 34 = .ok (.iadd, 1) := by decide +kernel
theorem dX0_read_35 : decode cX0_read 35 = .ok (.putfield 13, 3) := by decide +kernel
theorem dX0_read_38 : decode cX0_read 38 = .ok (.iconst 1, 1) := by decide +kernel
theorem dX0_read_39 : decode cX0_read 39 = .ok (.ireturn, 1) := by decide +kernel
theorem dX0_unread_0 : decode cX0_unread 0 = .ok (.aload_n 0, 1) := by decide +kernel
theorem dX0_unread_1 : decode cX0_unread 1 = .ok (.getfield 13, 3) := by decide +kernel
theorem dX0_unread_4 : decode cX0_unread 4 = .ok (.ifCond .ne 5, 3) := by decide +kernel
theorem dX0_unread_7 : decode cX0_unread 7 = .ok (.iconst 0, 1) := by decide +kernel
theorem dX0_unread_8 : decode cX0_unread 8 = .ok (.ireturn, 1) := by decide +kernel
theorem dX0_unread_9 : decode cX0_unread 9 = .ok (.aload_n 0, 1) := by decide +kernel
theorem dX0_unread_10 : decode cX0_unread 10 = .ok (.dup, 1) := by decide +kernel
theorem dX0_unread_11 : decode cX0_unread 11 = .ok (.getfield 13, 3) := by decide +kernel
theorem dX0_unread_14 : decode cX0_unread 14 = .ok (.iconst 1, 1) := by decide +kernel
theorem dX0_unread_15 : decode cX0_unread 15 = .ok (.isub, 1) := by decide +kernel
theorem dX0_unread_16 : decode cX0_unread 16 = .ok (.putfield 13, 3) := by decide +kernel
theorem dX0_unread_19 : decode cX0_unread 19 = .ok (.iconst 1, 1) := by decide +kernel
theorem dX0_unread_20 : decode cX0_unread 20 = .ok (.ireturn, 1) := by decide +kernel
theorem dX0_length_0 : decode cX0_length 0 = .ok (.aload_n 0, 1) := by decide +kernel
theorem dX0_length_1 : decode cX0_length 1 = .ok (.getfield 13, 3) := by decide +kernel
theorem dX0_length_4 : decode cX0_length 4 = .ok (.ireturn, 1) := by decide +kernel
set_option maxRecDepth 20000 in
theorem ggX0_forward_X0_refuseWrongPlace : GoodIn wsX0_forward wsX0_refuseWrongPlace := goodIn_ca (goodIn_ca (goodIn_r _ [6, 7, 8, 9, 10, 11, 12, 13, 5, 14, 15, 16, 17, 18, 19, 20, 37, 38, 39, 40, 41, 42, 43, 44, 45, 46, 47] (by decide +kernel) (by decide +kernel)) (goodIn_sub (fun _ h => List.mem_cons_of_mem _ (List.mem_append_left _ (List.mem_append_right _ h))) (by decide +kernel))) (goodIn_sub (fun _ h => List.mem_cons_of_mem _ (List.mem_append_right _ h)) (by decide +kernel))
set_option maxRecDepth 20000 in
theorem gX0_forward_X0_refuseWrongPlace : GoodIn wsX0_forward (wsV RX0 65 RX0 yX0_refuseWrongPlace wsX0_refuseWrongPlace) := goodIn_app (goodIn_of _ (by decide +kernel)) ggX0_forward_X0_refuseWrongPlace
set_option maxRecDepth 20000 in
theorem ggX0_forward_X0_fillForward : GoodIn wsX0_forward wsX0_fillForward := goodIn_r _ [24, 15, 20, 25, 1, 26, 27, 28, 5, 29, 30, 31, 32, 33, 34, 35, 36, 37, 38, 39, 40, 41, 42, 43, 44, 45, 46, 47] (by decide +kernel) (by decide +kernel)
set_option maxRecDepth 20000 in
theorem gX0_forward_X0_fillForward : GoodIn wsX0_forward (wsV RX0 69 RX0 yX0_fillForward wsX0_fillForward) := goodIn_app (goodIn_of _ (by decide +kernel)) ggX0_forward_X0_fillForward
theorem dX0_forward_0 : decode cX0_forward 0 = .ok (.aload_n 0, 1) := by decide +kernel
theorem dX0_forward_1 : decode cX0_forward 1 = .ok (.iload_n 1, 1) := by decide +kernel
theorem dX0_forward_2 : decode cX0_forward 2 = .ok (.iload_n 2, 1) := by decide +kernel
theorem dX0_forward_3 : decode cX0_forward 3 = .ok (.invokevirtual 65, 3) := by decide +kernel
theorem dX0_forward_6 : decode cX0_forward 6 = .ok (.aload_n 0, 1) := by decide +kernel
theorem dX0_forward_7 : decode cX0_forward 7 = .ok (.invokevirtual 69, 3) := by decide +kernel
theorem dX0_forward_10 : decode cX0_forward 10 = .ok (.aload_n 0, 1) := by decide +kernel
theorem dX0_forward_11 : decode cX0_forward 11 = .ok (.getfield 32, 3) := by decide +kernel
theorem dX0_forward_14 : decode cX0_forward 14 = .ok (.iload_n 1, 1) := by decide +kernel
theorem dX0_forward_15 : decode cX0_forward 15 = .ok (.aaload, 1) := by decide +kernel
theorem dX0_forward_16 : decode cX0_forward 16 = .ok (.iload_n 2, 1) := by decide +kernel
theorem dX0_forward_17 : decode cX0_forward 17 = .ok (.daload, 1) := by decide +kernel
theorem dX0_forward_18 : decode cX0_forward 18 = .ok (.dreturn, 1) := by decide +kernel
set_option maxRecDepth 20000 in
theorem ggX0_backward_X0_refuseWrongPlace : GoodIn wsX0_backward wsX0_refuseWrongPlace := goodIn_ca (goodIn_ca (goodIn_r _ [6, 7, 8, 9, 10, 11, 12, 13, 5, 14, 15, 16, 17, 18, 19, 20, 36, 37, 38, 39, 40, 41, 42, 43, 44, 45, 46] (by decide +kernel) (by decide +kernel)) (goodIn_sub (fun _ h => List.mem_cons_of_mem _ (List.mem_append_left _ (List.mem_append_right _ h))) (by decide +kernel))) (goodIn_sub (fun _ h => List.mem_cons_of_mem _ (List.mem_append_right _ h)) (by decide +kernel))
set_option maxRecDepth 20000 in
theorem gX0_backward_X0_refuseWrongPlace : GoodIn wsX0_backward (wsV RX0 65 RX0 yX0_refuseWrongPlace wsX0_refuseWrongPlace) := goodIn_app (goodIn_of _ (by decide +kernel)) ggX0_backward_X0_refuseWrongPlace
set_option maxRecDepth 20000 in
theorem ggX0_backward_X0_fillBackward : GoodIn wsX0_backward wsX0_fillBackward := goodIn_r _ [24, 15, 20, 1, 25, 26, 27, 5, 28, 29, 30, 31, 32, 33, 34, 35, 36, 37, 38, 39, 40, 41, 42, 43, 44, 45, 46] (by decide +kernel) (by decide +kernel)
set_option maxRecDepth 20000 in
theorem gX0_backward_X0_fillBackward : GoodIn wsX0_backward (wsV RX0 72 RX0 yX0_fillBackward wsX0_fillBackward) := goodIn_app (goodIn_of _ (by decide +kernel)) ggX0_backward_X0_fillBackward
theorem dX0_backward_0 : decode cX0_backward 0 = .ok (.aload_n 0, 1) := by decide +kernel
theorem dX0_backward_1 : decode cX0_backward 1 = .ok (.iload_n 1, 1) := by decide +kernel
theorem dX0_backward_2 : decode cX0_backward 2 = .ok (.iload_n 2, 1) := by decide +kernel
theorem dX0_backward_3 : decode cX0_backward 3 = .ok (.invokevirtual 65, 3) := by decide +kernel
theorem dX0_backward_6 : decode cX0_backward 6 = .ok (.aload_n 0, 1) := by decide +kernel
theorem dX0_backward_7 : decode cX0_backward 7 = .ok (.invokevirtual 72, 3) := by decide +kernel
theorem dX0_backward_10 : decode cX0_backward 10 = .ok (.aload_n 0, 1) := by decide +kernel
theorem dX0_backward_11 : decode cX0_backward 11 = .ok (.getfield 35, 3) := by decide +kernel
theorem dX0_backward_14 : decode cX0_backward 14 = .ok (.iload_n 1, 1) := by decide +kernel
theorem dX0_backward_15 : decode cX0_backward 15 = .ok (.aaload, 1) := by decide +kernel
theorem dX0_backward_16 : decode cX0_backward 16 = .ok (.iload_n 2, 1) := by decide +kernel
theorem dX0_backward_17 : decode cX0_backward 17 = .ok (.daload, 1) := by decide +kernel
theorem dX0_backward_18 : decode cX0_backward 18 = .ok (.dreturn, 1) := by decide +kernel
set_option maxRecDepth 20000 in
theorem ggX0_total_X0_fillForward : GoodIn wsX0_total wsX0_fillForward := goodIn_r _ [6, 1, 7, 8, 9, 10, 11, 12, 5, 13, 14, 15, 16, 17, 18, 19, 20, 25, 26, 27, 28, 29, 30, 31, 32, 33, 34, 35] (by decide +kernel) (by decide +kernel)
set_option maxRecDepth 20000 in
theorem gX0_total_X0_fillForward : GoodIn wsX0_total (wsV RX0 69 RX0 yX0_fillForward wsX0_fillForward) := goodIn_app (goodIn_of _ (by decide +kernel)) ggX0_total_X0_fillForward
set_option maxRecDepth 20000 in
theorem ggX0_total_X0_sumAtLast : GoodIn wsX0_total wsX0_sumAtLast := goodIn_r _ [24, 7, 9, 1, 25, 26, 27, 28, 29, 30, 31, 32, 33, 34, 35] (by decide +kernel) (by decide +kernel)
set_option maxRecDepth 20000 in
theorem gX0_total_X0_sumAtLast : GoodIn wsX0_total (wsV RX0 75 RX0 yX0_sumAtLast wsX0_sumAtLast) := goodIn_app (goodIn_of _ (by decide +kernel)) ggX0_total_X0_sumAtLast
theorem dX0_total_0 : decode cX0_total 0 = .ok (.aload_n 0, 1) := by decide +kernel
theorem dX0_total_1 : decode cX0_total 1 = .ok (.getfield 13, 3) := by decide +kernel
theorem dX0_total_4 : decode cX0_total 4 = .ok (.ifCond .ne 5, 3) := by decide +kernel
theorem dX0_total_7 : decode cX0_total 7 = .ok (.dconst 1, 1) := by decide +kernel
theorem dX0_total_8 : decode cX0_total 8 = .ok (.dreturn, 1) := by decide +kernel
theorem dX0_total_9 : decode cX0_total 9 = .ok (.aload_n 0, 1) := by decide +kernel
theorem dX0_total_10 : decode cX0_total 10 = .ok (.invokevirtual 69, 3) := by decide +kernel
theorem dX0_total_13 : decode cX0_total 13 = .ok (.aload_n 0, 1) := by decide +kernel
theorem dX0_total_14 : decode cX0_total 14 = .ok (.invokevirtual 75, 3) := by decide +kernel
theorem dX0_total_17 : decode cX0_total 17 = .ok (.dreturn, 1) := by decide +kernel
set_option maxRecDepth 20000 in
theorem ggX0_best_X0_fillBest : GoodIn wsX0_best wsX0_fillBest := goodIn_r _ [7, 8, 2, 9, 1, 10, 11, 12, 13, 14, 6, 15, 16, 17, 18, 19, 20, 21, 26, 27, 28, 29, 30, 31, 32, 33, 34, 35, 36] (by decide +kernel) (by decide +kernel)
set_option maxRecDepth 20000 in
theorem gX0_best_X0_fillBest : GoodIn wsX0_best (wsV RX0 79 RX0 yX0_fillBest wsX0_fillBest) := goodIn_app (goodIn_of _ (by decide +kernel)) ggX0_best_X0_fillBest
set_option maxRecDepth 20000 in
theorem ggX0_best_X0_lowestBestAtLast : GoodIn wsX0_best wsX0_lowestBestAtLast := goodIn_r _ [25, 8, 2, 1, 26, 27, 28, 29, 30, 31, 32, 33, 34, 35, 36] (by decide +kernel) (by decide +kernel)
set_option maxRecDepth 20000 in
theorem gX0_best_X0_lowestBestAtLast : GoodIn wsX0_best (wsV RX0 82 RX0 yX0_lowestBestAtLast wsX0_lowestBestAtLast) := goodIn_app (goodIn_of _ (by decide +kernel)) ggX0_best_X0_lowestBestAtLast
theorem dX0_best_0 : decode cX0_best 0 = .ok (.aload_n 0, 1) := by decide +kernel
theorem dX0_best_1 : decode cX0_best 1 = .ok (.getfield 13, 3) := by decide +kernel
theorem dX0_best_4 : decode cX0_best 4 = .ok (.ifCond .ne 5, 3) := by decide +kernel
theorem dX0_best_7 : decode cX0_best 7 = .ok (.dconst 1, 1) := by decide +kernel
theorem dX0_best_8 : decode cX0_best 8 = .ok (.dreturn, 1) := by decide +kernel
theorem dX0_best_9 : decode cX0_best 9 = .ok (.aload_n 0, 1) := by decide +kernel
theorem dX0_best_10 : decode cX0_best 10 = .ok (.invokevirtual 79, 3) := by decide +kernel
theorem dX0_best_13 : decode cX0_best 13 = .ok (.aload_n 0, 1) := by decide +kernel
theorem dX0_best_14 : decode cX0_best 14 = .ok (.getfield 38, 3) := by decide +kernel
theorem dX0_best_17 : decode cX0_best 17 = .ok (.aload_n 0, 1) := by decide +kernel
theorem dX0_best_18 : decode cX0_best 18 = .ok (.getfield 13, 3) := by decide +kernel
theorem dX0_best_21 : decode cX0_best 21 = .ok (.iconst 1, 1) := by decide +kernel
theorem dX0_best_22 : decode cX0_best 22 = .ok (.isub, 1) := by decide +kernel
theorem dX0_best_23 : decode cX0_best 23 = .ok (.aaload, 1) := by decide +kernel
theorem dX0_best_24 : decode cX0_best 24 = .ok (.aload_n 0, 1) := by decide +kernel
theorem dX0_best_25 : decode cX0_best 25 = .ok (.invokevirtual 82, 3) := by decide +kernel
theorem dX0_best_28 : decode cX0_best 28 = .ok (.daload, 1) := by decide +kernel
theorem dX0_best_29 : decode cX0_best 29 = .ok (.dreturn, 1) := by decide +kernel
set_option maxRecDepth 20000 in
theorem ggX0_bestState_X0_isPlace : GoodIn wsX0_bestState wsX0_isPlace := goodIn_r _ [7, 1, 30, 31, 32, 33, 34, 35, 36, 37, 38, 39, 40] (by decide +kernel) (by decide +kernel)
set_option maxRecDepth 20000 in
theorem gX0_bestState_X0_isPlace : GoodIn wsX0_bestState (wsV RX0 86 RX0 yX0_isPlace wsX0_isPlace) := goodIn_app (goodIn_of _ (by decide +kernel)) ggX0_bestState_X0_isPlace
set_option maxRecDepth 20000 in
theorem ggX0_bestState_X0_fillBest : GoodIn wsX0_bestState wsX0_fillBest := goodIn_r _ [11, 12, 13, 14, 1, 2, 15, 16, 17, 18, 6, 19, 20, 21, 22, 23, 24, 25, 30, 31, 32, 33, 34, 35, 36, 37, 38, 39, 40] (by decide +kernel) (by decide +kernel)
set_option maxRecDepth 20000 in
theorem gX0_bestState_X0_fillBest : GoodIn wsX0_bestState (wsV RX0 79 RX0 yX0_fillBest wsX0_fillBest) := goodIn_app (goodIn_of _ (by decide +kernel)) ggX0_bestState_X0_fillBest
set_option maxRecDepth 20000 in
theorem ggX0_bestState_X0_lowestBestAtLast : GoodIn wsX0_bestState wsX0_lowestBestAtLast := goodIn_r _ [29, 12, 13, 1, 30, 31, 32, 33, 34, 35, 36, 37, 38, 39, 40] (by decide +kernel) (by decide +kernel)
set_option maxRecDepth 20000 in
theorem gX0_bestState_X0_lowestBestAtLast : GoodIn wsX0_bestState (wsV RX0 82 RX0 yX0_lowestBestAtLast wsX0_lowestBestAtLast) := goodIn_app (goodIn_of _ (by decide +kernel)) ggX0_bestState_X0_lowestBestAtLast
theorem dX0_bestState_0 : decode cX0_bestState 0 = .ok (.aload_n 0, 1) := by decide +kernel
theorem dX0_bestState_1 : decode cX0_bestState 1 = .ok (.iload_n 1, 1) := by decide +kernel
theorem dX0_bestState_2 : decode cX0_bestState 2 = .ok (.invokevirtual 86, 3) := by decide +kernel
theorem dX0_bestState_5 : decode cX0_bestState 5 = .ok (.ifCond .ne 5, 3) := by decide +kernel
theorem dX0_bestState_8 : decode cX0_bestState 8 = .ok (.iconst (-1), 1) := by decide +kernel
theorem dX0_bestState_9 : decode cX0_bestState 9 = .ok (.ireturn, 1) := by decide +kernel
theorem dX0_bestState_10 : decode cX0_bestState 10 = .ok (.aload_n 0, 1) := by decide +kernel
theorem dX0_bestState_11 : decode cX0_bestState 11 = .ok (.invokevirtual 79, 3) := by decide +kernel
theorem dX0_bestState_14 : decode cX0_bestState 14 = .ok (.aload_n 0, 1) := by decide +kernel
theorem dX0_bestState_15 : decode cX0_bestState 15 = .ok (.invokevirtual 82, 3) := by decide +kernel
theorem dX0_bestState_18 : decode cX0_bestState 18 = .ok (.istore_n 2, 1) := by decide +kernel
theorem dX0_bestState_19 : decode cX0_bestState 19 = .ok (.aload_n 0, 1) := by decide +kernel
theorem dX0_bestState_20 : decode cX0_bestState 20 = .ok (.getfield 13, 3) := by decide +kernel
theorem dX0_bestState_23 : decode cX0_bestState 23 = .ok (.iconst 1, 1) := by decide +kernel
theorem dX0_bestState_24 : decode cX0_bestState 24 = .ok (.isub, 1) := by decide +kernel
theorem dX0_bestState_25 : decode cX0_bestState 25 = .ok (.istore_n 3, 1) := by decide +kernel
theorem dX0_bestState_26 : decode cX0_bestState 26 = .ok (.iload_n 3, 1) := by decide +kernel
theorem dX0_bestState_27 : decode cX0_bestState 27 = .ok (.iload_n 1, 1) := by decide +kernel
theorem dX0_bestState_28 : decode cX0_bestState 28 = .ok (.if_icmp .le 18, 3) := by decide +kernel
theorem dX0_bestState_31 : decode cX0_bestState 31 = .ok (.aload_n 0, 1) := by decide +kernel
theorem dX0_bestState_32 : decode cX0_bestState 32 = .ok (.getfield 43, 3) := by decide +kernel
theorem dX0_bestState_35 : decode cX0_bestState 35 = .ok (.iload_n 3, 1) := by decide +kernel
theorem dX0_bestState_36 : decode cX0_bestState 36 = .ok (.aaload, 1) := by decide +kernel
theorem dX0_bestState_37 : decode cX0_bestState 37 = .ok (.iload_n 2, 1) := by decide +kernel
theorem dX0_bestState_38 : decode cX0_bestState 38 = .ok (.iaload, 1) := by decide +kernel
theorem dX0_bestState_39 : decode cX0_bestState 39 = .ok (.istore_n 2, 1) := by decide +kernel
theorem dX0_bestState_40 : decode cX0_bestState 40 = .ok (.iinc 3 (-1), 3) := by decide +kernel
theorem dX0_bestState_43 : decode cX0_bestState 43 = .ok (.goto (-17), 3) := by decide +kernel
theorem dX0_bestState_46 : decode cX0_bestState 46 = .ok (.iload_n 2, 1) := by decide +kernel
theorem dX0_bestState_47 : decode cX0_bestState 47 = .ok (.ireturn, 1) := by decide +kernel
set_option maxRecDepth 20000 in
theorem ggX0_share_X0_refuseWrongPlace : GoodIn wsX0_share wsX0_refuseWrongPlace := goodIn_ca (goodIn_ca (goodIn_r _ [9, 10, 11, 12, 13, 14, 15, 16, 8, 17, 18, 19, 20, 21, 22, 23, 52, 53, 54, 55, 56, 57, 58, 59, 60, 61, 62] (by decide +kernel) (by decide +kernel)) (goodIn_sub (fun _ h => List.mem_cons_of_mem _ (List.mem_append_left _ (List.mem_append_right _ h))) (by decide +kernel))) (goodIn_sub (fun _ h => List.mem_cons_of_mem _ (List.mem_append_right _ h)) (by decide +kernel))
set_option maxRecDepth 20000 in
theorem gX0_share_X0_refuseWrongPlace : GoodIn wsX0_share (wsV RX0 65 RX0 yX0_refuseWrongPlace wsX0_refuseWrongPlace) := goodIn_app (goodIn_of _ (by decide +kernel)) ggX0_share_X0_refuseWrongPlace
set_option maxRecDepth 20000 in
theorem ggX0_share_X0_fillForward : GoodIn wsX0_share wsX0_fillForward := goodIn_r _ [27, 18, 23, 28, 3, 29, 30, 31, 8, 32, 33, 34, 35, 36, 37, 38, 39, 52, 53, 54, 55, 56, 57, 58, 59, 60, 61, 62] (by decide +kernel) (by decide +kernel)
set_option maxRecDepth 20000 in
theorem gX0_share_X0_fillForward : GoodIn wsX0_share (wsV RX0 69 RX0 yX0_fillForward wsX0_fillForward) := goodIn_app (goodIn_of _ (by decide +kernel)) ggX0_share_X0_fillForward
set_option maxRecDepth 20000 in
theorem ggX0_share_X0_sumAtLast : GoodIn wsX0_share wsX0_sumAtLast := goodIn_r _ [43, 23, 3, 18, 52, 53, 54, 55, 56, 57, 58, 59, 60, 61, 62] (by decide +kernel) (by decide +kernel)
set_option maxRecDepth 20000 in
theorem gX0_share_X0_sumAtLast : GoodIn wsX0_share (wsV RX0 75 RX0 yX0_sumAtLast wsX0_sumAtLast) := goodIn_app (goodIn_of _ (by decide +kernel)) ggX0_share_X0_sumAtLast
set_option maxRecDepth 20000 in
theorem ggX0_share_X0_fillBackward : GoodIn wsX0_share wsX0_fillBackward := goodIn_r _ [47, 18, 23, 4, 48, 49, 50, 8, 51, 33, 34, 35, 36, 37, 38, 39, 52, 53, 54, 55, 56, 57, 58, 59, 60, 61, 62] (by decide +kernel) (by decide +kernel)
set_option maxRecDepth 20000 in
theorem gX0_share_X0_fillBackward : GoodIn wsX0_share (wsV RX0 72 RX0 yX0_fillBackward wsX0_fillBackward) := goodIn_app (goodIn_of _ (by decide +kernel)) ggX0_share_X0_fillBackward
theorem dX0_share_0 : decode cX0_share 0 = .ok (.aload_n 0, 1) := by decide +kernel
theorem dX0_share_1 : decode cX0_share 1 = .ok (.iload_n 1, 1) := by decide +kernel
theorem dX0_share_2 : decode cX0_share 2 = .ok (.iload_n 2, 1) := by decide +kernel
theorem dX0_share_3 : decode cX0_share 3 = .ok (.invokevirtual 65, 3) := by decide +kernel
theorem dX0_share_6 : decode cX0_share 6 = .ok (.aload_n 0, 1) := by decide +kernel
theorem dX0_share_7 : decode cX0_share 7 = .ok (.invokevirtual 69, 3) := by decide +kernel
theorem dX0_share_10 : decode cX0_share 10 = .ok (.aload_n 0, 1) := by decide +kernel
theorem dX0_share_11 : decode cX0_share 11 = .ok (.invokevirtual 75, 3) := by decide +kernel
theorem dX0_share_14 : decode cX0_share 14 = .ok (.dstore_n 3, 1) := by decide +kernel
theorem dX0_share_15 : decode cX0_share 15 = .ok (.dload_n 3, 1) := by decide +kernel
theorem dX0_share_16 : decode cX0_share 16 = .ok (.dconst 0, 1) := by decide +kernel
theorem dX0_share_17 : decode cX0_share 17 = .ok (.dcmp .l, 1) := by decide +kernel
theorem dX0_share_18 : decode cX0_share 18 = .ok (.ifCond .ne 13, 3) := by decide +kernel
theorem dX0_share_21 : decode cX0_share 21 = .ok (.new 89, 3) := by decide +kernel
theorem dX0_share_24 : decode cX0_share 24 = .ok (.dup, 1) := by decide +kernel
theorem dX0_share_25 : decode cX0_share 25 = .ok (.ldc 91, 2) := by decide +kernel
theorem dX0_share_27 : decode cX0_share 27 = .ok (.invokespecial 93, 3) := by decide +kernel
theorem dX0_share_30 : decode cX0_share 30 = .ok (.athrow, 1) := by decide +kernel
theorem dX0_share_31 : decode cX0_share 31 = .ok (.aload_n 0, 1) := by decide +kernel
theorem dX0_share_32 : decode cX0_share 32 = .ok (.invokevirtual 72, 3) := by decide +kernel
theorem dX0_share_35 : decode cX0_share 35 = .ok (.aload_n 0, 1) := by decide +kernel
theorem dX0_share_36 : decode cX0_share 36 = .ok (.getfield 32, 3) := by decide +kernel
theorem dX0_share_39 : decode cX0_share 39 = .ok (.iload_n 1, 1) := by decide +kernel
theorem dX0_share_40 : decode cX0_share 40 = .ok (.aaload, 1) := by decide +kernel
theorem dX0_share_41 : decode cX0_share 41 = .ok (.iload_n 2, 1) := by decide +kernel
theorem dX0_share_42 : decode cX0_share 42 = .ok (.daload, 1) := by decide +kernel
theorem dX0_share_43 : decode cX0_share 43 = .ok (.aload_n 0, 1) := by decide +kernel
theorem dX0_share_44 : decode cX0_share 44 = .ok (.getfield 35, 3) := by decide +kernel
theorem dX0_share_47 : decode cX0_share 47 = .ok (.iload_n 1, 1) := by decide +kernel
theorem dX0_share_48 : decode cX0_share 48 = .ok (.aaload, 1) := by decide +kernel
theorem dX0_share_49 : decode cX0_share 49 = .ok (.iload_n 2, 1) := by decide +kernel
theorem dX0_share_50 : decode cX0_share 50 = .ok (.daload, 1) := by decide +kernel
theorem dX0_share_51 : decode cX0_share 51 = .ok (.dmul, 1) := by decide +kernel
theorem dX0_share_52 : decode cX0_share 52 = .ok (.dload_n 3, 1) := by decide +kernel
theorem dX0_share_53 : decode cX0_share 53 = .ok (.ddiv, 1) := by decide +kernel
theorem dX0_share_54 : decode cX0_share 54 = .ok (.dreturn, 1) := by decide +kernel
set_option maxRecDepth 20000 in
theorem ggX0_possible_X0_fillCounts : GoodIn wsX0_possible wsX0_fillCounts := goodIn_r _ [8, 1, 2, 3, 9, 10, 11, 7, 12, 13, 14, 15, 16, 17, 18, 19, 20, 21, 22, 23, 24, 25, 26, 27, 28, 29, 30, 31] (by decide +kernel) (by decide +kernel)
set_option maxRecDepth 20000 in
theorem gX0_possible_X0_fillCounts : GoodIn wsX0_possible (wsV RX0 96 RX0 yX0_fillCounts wsX0_fillCounts) := goodIn_app (goodIn_of _ (by decide +kernel)) ggX0_possible_X0_fillCounts
theorem dX0_possible_0 : decode cX0_possible 0 = .ok (.aload_n 0, 1) := by decide +kernel
theorem dX0_possible_1 : decode cX0_possible 1 = .ok (.getfield 13, 3) := by decide +kernel
theorem dX0_possible_4 : decode cX0_possible 4 = .ok (.ifCond .ne 5, 3) := by decide +kernel
theorem dX0_possible_7 : decode cX0_possible 7 = .ok (.lconst 1, 1) := by decide +kernel
theorem dX0_possible_8 : decode cX0_possible 8 = .ok (.lreturn, 1) := by decide +kernel
theorem dX0_possible_9 : decode cX0_possible 9 = .ok (.aload_n 0, 1) := by decide +kernel
theorem dX0_possible_10 : decode cX0_possible 10 = .ok (.invokevirtual 96, 3) := by decide +kernel
theorem dX0_possible_13 : decode cX0_possible 13 = .ok (.lconst 0, 1) := by decide +kernel
theorem dX0_possible_14 : decode cX0_possible 14 = .ok (.lstore_n 1, 1) := by decide +kernel
theorem dX0_possible_15 : decode cX0_possible 15 = .ok (.iconst 0, 1) := by decide +kernel
theorem dX0_possible_16 : decode cX0_possible 16 = .ok (.istore_n 3, 1) := by decide +kernel
theorem dX0_possible_17 : decode cX0_possible 17 = .ok (.iload_n 3, 1) := by decide +kernel
theorem dX0_possible_18 : decode cX0_possible 18 = .ok (.aload_n 0, 1) := by decide +kernel
theorem dX0_possible_19 : decode cX0_possible 19 = .ok (.getfield 7, 3) := by decide +kernel
theorem dX0_possible_22 : decode cX0_possible 22 = .ok (.if_icmp .ge 25, 3) := by decide +kernel
theorem dX0_possible_25 : decode cX0_possible 25 = .ok (.lload_n 1, 1) := by decide +kernel
theorem dX0_possible_26 : decode cX0_possible 26 = .ok (.aload_n 0, 1) := by decide +kernel
theorem dX0_possible_27 : decode cX0_possible 27 = .ok (.getfield 48, 3) := by decide +kernel
theorem dX0_possible_30 : decode cX0_possible 30 = .ok (.aload_n 0, 1) := by decide +kernel
theorem dX0_possible_31 : decode cX0_possible 31 = .ok (.getfield 13, 3) := by decide +kernel
theorem dX0_possible_34 : decode cX0_possible 34 = .ok (.iconst 1, 1) := by decide +kernel
theorem dX0_possible_35 : decode cX0_possible 35 = .ok (.isub, 1) := by decide +kernel
theorem dX0_possible_36 : decode cX0_possible 36 = .ok (.aaload, 1) := by decide +kernel
theorem dX0_possible_37 : decode cX0_possible 37 = .ok (.iload_n 3, 1) := by decide +kernel
theorem dX0_possible_38 : decode cX0_possible 38 = .ok (.laload, 1) := by decide +kernel
theorem dX0_possible_39 : decode cX0_possible 39 = .ok (.ladd, 1) := by decide +kernel
theorem dX0_possible_40 : decode cX0_possible 40 = .ok (.lstore_n 1, 1) := by decide +kernel
theorem dX0_possible_41 : decode cX0_possible 41 = .ok (.iinc 3 1, 3) := by decide +kernel
theorem dX0_possible_44 : decode cX0_possible 44 = .ok (.goto (-27), 3) := by decide +kernel
theorem dX0_possible_47 : decode cX0_possible 47 = .ok (.lload_n 1, 1) := by decide +kernel
theorem dX0_possible_48 : decode cX0_possible 48 = .ok (.lreturn, 1) := by decide +kernel
theorem dX0_isState_0 : decode cX0_isState 0 = .ok (.iload_n 1, 1) := by decide +kernel
theorem dX0_isState_1 : decode cX0_isState 1 = .ok (.ifCond .lt 15, 3) := by decide +kernel
theorem dX0_isState_4 : decode cX0_isState 4 = .ok (.iload_n 1, 1) := by decide +kernel
theorem dX0_isState_5 : decode cX0_isState 5 = .ok (.aload_n 0, 1) := by decide +kernel
theorem dX0_isState_6 : decode cX0_isState 6 = .ok (.getfield 7, 3) := by decide +kernel
theorem dX0_isState_9 : decode cX0_isState 9 = .ok (.if_icmp .ge 7, 3) := by decide +kernel
theorem dX0_isState_12 : decode cX0_isState 12 = .ok (.iconst 1, 1) := by decide +kernel
theorem dX0_isState_13 : decode cX0_isState 13 = .ok (.goto 4, 3) := by decide +kernel
theorem dX0_isState_16 : decode cX0_isState 16 = .ok (.iconst 0, 1) := by decide +kernel
theorem dX0_isState_17 : decode cX0_isState 17 = .ok (.ireturn, 1) := by decide +kernel
theorem dX0_isPlace_0 : decode cX0_isPlace 0 = .ok (.iload_n 1, 1) := by decide +kernel
theorem dX0_isPlace_1 : decode cX0_isPlace 1 = .ok (.ifCond .lt 15, 3) := by decide +kernel
theorem dX0_isPlace_4 : decode cX0_isPlace 4 = .ok (.iload_n 1, 1) := by decide +kernel
theorem dX0_isPlace_5 : decode cX0_isPlace 5 = .ok (.aload_n 0, 1) := by decide +kernel
theorem dX0_isPlace_6 : decode cX0_isPlace 6 = .ok (.getfield 13, 3) := by decide +kernel
theorem dX0_isPlace_9 : decode cX0_isPlace 9 = .ok (.if_icmp .ge 7, 3) := by decide +kernel
theorem dX0_isPlace_12 : decode cX0_isPlace 12 = .ok (.iconst 1, 1) := by decide +kernel
theorem dX0_isPlace_13 : decode cX0_isPlace 13 = .ok (.goto 4, 3) := by decide +kernel
theorem dX0_isPlace_16 : decode cX0_isPlace 16 = .ok (.iconst 0, 1) := by decide +kernel
theorem dX0_isPlace_17 : decode cX0_isPlace 17 = .ok (.ireturn, 1) := by decide +kernel
theorem dX0_isSymbol_0 : decode cX0_isSymbol 0 = .ok (.iload_n 0, 1) := by decide +kernel
theorem dX0_isSymbol_1 : decode cX0_isSymbol 1 = .ok (.ifCond .lt 12, 3) := by decide +kernel
theorem dX0_isSymbol_4 : decode cX0_isSymbol 4 = .ok (.iload_n 0, 1) := by decide +kernel
theorem dX0_isSymbol_5 : decode cX0_isSymbol 5 = .ok (.iconst 4, 1) := by decide +kernel
theorem dX0_isSymbol_6 : decode cX0_isSymbol 6 = .ok (.if_icmp .ge 7, 3) := by decide +kernel
theorem dX0_isSymbol_9 : decode cX0_isSymbol 9 = .ok (.iconst 1, 1) := by decide +kernel
theorem dX0_isSymbol_10 : decode cX0_isSymbol 10 = .ok (.goto 4, 3) := by decide +kernel
theorem dX0_isSymbol_13 : decode cX0_isSymbol 13 = .ok (.iconst 0, 1) := by decide +kernel
theorem dX0_isSymbol_14 : decode cX0_isSymbol 14 = .ok (.ireturn, 1) := by decide +kernel
theorem dX0_isWeight_0 : decode cX0_isWeight 0 = .ok (.dload_n 0, 1) := by decide +kernel
theorem dX0_isWeight_1 : decode cX0_isWeight 1 = .ok (.dconst 0, 1) := by decide +kernel
theorem dX0_isWeight_2 : decode cX0_isWeight 2 = .ok (.dcmp .l, 1) := by decide +kernel
theorem dX0_isWeight_3 : decode cX0_isWeight 3 = .ok (.ifCond .lt 13, 3) := by decide +kernel
theorem dX0_isWeight_6 : decode cX0_isWeight 6 = .ok (.dload_n 0, 1) := by decide +kernel
theorem dX0_isWeight_7 : decode cX0_isWeight 7 = .ok (.dconst 1, 1) := by decide +kernel
theorem dX0_isWeight_8 : decode cX0_isWeight 8 = .ok (.dcmp .g, 1) := by decide +kernel
theorem dX0_isWeight_9 : decode cX0_isWeight 9 = .ok (.ifCond .gt 7, 3) := by decide +kernel
theorem dX0_isWeight_12 : decode cX0_isWeight 12 = .ok (.iconst 1, 1) := by decide +kernel
theorem dX0_isWeight_13 : decode cX0_isWeight 13 = .ok (.goto 4, 3) := by decide +kernel
theorem dX0_isWeight_16 : decode cX0_isWeight 16 = .ok (.iconst 0, 1) := by decide +kernel
theorem dX0_isWeight_17 : decode cX0_isWeight 17 = .ok (.ireturn, 1) := by decide +kernel
set_option maxRecDepth 20000 in
theorem ggX0_refuseWrongPlace_X0_isPlace : GoodIn wsX0_refuseWrongPlace wsX0_isPlace := goodIn_r _ [9, 10, 16, 17, 18, 19, 20, 21, 22, 23, 24, 25, 26] (by decide +kernel) (by decide +kernel)
set_option maxRecDepth 20000 in
theorem gX0_refuseWrongPlace_X0_isPlace : GoodIn wsX0_refuseWrongPlace (wsV RX0 86 RX0 yX0_isPlace wsX0_isPlace) := goodIn_app (goodIn_of _ (by decide +kernel)) ggX0_refuseWrongPlace_X0_isPlace
set_option maxRecDepth 20000 in
theorem ggX0_refuseWrongPlace_X0_isState : GoodIn wsX0_refuseWrongPlace wsX0_isState := goodIn_r _ [14, 15, 16, 17, 18, 19, 20, 21, 22, 23, 24, 25, 26] (by decide +kernel) (by decide +kernel)
set_option maxRecDepth 20000 in
theorem gX0_refuseWrongPlace_X0_isState : GoodIn wsX0_refuseWrongPlace (wsV RX0 54 RX0 yX0_isState wsX0_isState) := goodIn_app (goodIn_of _ (by decide +kernel)) ggX0_refuseWrongPlace_X0_isState
theorem dX0_refuseWrongPlace_0 : decode cX0_refuseWrongPlace 0 = .ok (.aload_n 0, 1) := by decide +kernel
theorem dX0_refuseWrongPlace_1 : decode cX0_refuseWrongPlace 1 = .ok (.iload_n 1, 1) := by decide +kernel
theorem dX0_refuseWrongPlace_2 : decode cX0_refuseWrongPlace 2 = .ok (.invokevirtual 86, 3) := by decide +kernel
theorem dX0_refuseWrongPlace_5 : decode cX0_refuseWrongPlace 5 = .ok (.ifCond .ne 13, 3) := by decide +kernel
theorem dX0_refuseWrongPlace_8 : decode cX0_refuseWrongPlace 8 = .ok (.new 99, 3) := by decide +kernel
theorem dX0_refuseWrongPlace_11 : decode cX0_refuseWrongPlace 11 = .ok (.dup, 1) := by decide +kernel
theorem dX0_refuseWrongPlace_12 : decode cX0_refuseWrongPlace 12 = .ok (.ldc 101, 2) := by decide +kernel
theorem dX0_refuseWrongPlace_14 : decode cX0_refuseWrongPlace 14 = .ok (.invokespecial 103, 3) := by decide +kernel
theorem dX0_refuseWrongPlace_17 : decode cX0_refuseWrongPlace 17 = .ok (.athrow, 1) := by decide +kernel
theorem dX0_refuseWrongPlace_18 : decode cX0_refuseWrongPlace 18 = .ok (.aload_n 0, 1) := by decide +kernel
theorem dX0_refuseWrongPlace_19 : decode cX0_refuseWrongPlace 19 = .ok (.iload_n 2, 1) := by decide +kernel
theorem dX0_refuseWrongPlace_20 : decode cX0_refuseWrongPlace 20 = .ok (.invokevirtual 54, 3) := by decide +kernel
theorem dX0_refuseWrongPlace_23 : decode cX0_refuseWrongPlace 23 = .ok (.ifCond .ne 13, 3) := by decide +kernel
theorem dX0_refuseWrongPlace_26 : decode cX0_refuseWrongPlace 26 = .ok (.new 104, 3) := by decide +kernel
theorem dX0_refuseWrongPlace_29 : decode cX0_refuseWrongPlace 29 = .ok (.dup, 1) := by decide +kernel
theorem dX0_refuseWrongPlace_30 : decode cX0_refuseWrongPlace 30 = .ok (.ldc 106, 2) := by decide +kernel
theorem dX0_refuseWrongPlace_32 : decode cX0_refuseWrongPlace 32 = .ok (.invokespecial 108, 3) := by decide +kernel
theorem dX0_refuseWrongPlace_35 : decode cX0_refuseWrongPlace 35 = .ok (.athrow, 1) := by decide +kernel
theorem dX0_refuseWrongPlace_36 : decode cX0_refuseWrongPlace 36 = .ok (.return_, 1) := by decide +kernel
theorem dX0_clearWeights_0 : decode cX0_clearWeights 0 = .ok (.iconst 0, 1) := by decide +kernel
theorem dX0_clearWeights_1 : decode cX0_clearWeights 1 = .ok (.istore_n 1, 1) := by decide +kernel
theorem dX0_clearWeights_2 : decode cX0_clearWeights 2 = .ok (.iload_n 1, 1) := by decide +kernel
theorem dX0_clearWeights_3 : decode cX0_clearWeights 3 = .ok (.bipush 6, 2) := by decide +kernel
theorem dX0_clearWeights_5 : decode cX0_clearWeights 5 = .ok (.if_icmp .ge 61, 3) := by decide +kernel
theorem dX0_clearWeights_8 : decode cX0_clearWeights 8 = .ok (.aload_n 0, 1) := by decide +kernel
theorem dX0_clearWeights_9 : decode cX0_clearWeights 9 = .ok (.getfield 20, 3) := by decide +kernel
theorem dX0_clearWeights_12 : decode cX0_clearWeights 12 = .ok (.iload_n 1, 1) := by decide +kernel
theorem dX0_clearWeights_13 : decode cX0_clearWeights 13 = .ok (.dconst 0, 1) := by decide +kernel
theorem dX0_clearWeights_14 : decode cX0_clearWeights 14 = .ok (.dastore, 1) := by decide +kernel
theorem dX0_clearWeights_15 : decode cX0_clearWeights 15 = .ok (.iconst 0, 1) := by decide +kernel
theorem dX0_clearWeights_16 : decode cX0_clearWeights 16 = .ok (.istore_n 2, 1) := by decide +kernel
theorem dX0_clearWeights_17 : decode cX0_clearWeights 17 = .ok (.iload_n 2, 1) := by decide +kernel
theorem dX0_clearWeights_18 : decode cX0_clearWeights 18 = .ok (.bipush 6, 2) := by decide +kernel
theorem dX0_clearWeights_20 : decode cX0_clearWeights 20 = .ok (.if_icmp .ge 18, 3) := by decide +kernel
theorem dX0_clearWeights_23 : decode cX0_clearWeights 23 = .ok (.aload_n 0, 1) := by decide +kernel
theorem dX0_clearWeights_24 : decode cX0_clearWeights 24 = .ok (.getfield 26, 3) := by decide +kernel
theorem dX0_clearWeights_27 : decode cX0_clearWeights 27 = .ok (.iload_n 1, 1) := by decide +kernel
theorem dX0_clearWeights_28 : decode cX0_clearWeights 28 = .ok (.aaload, 1) := by decide +kernel
theorem dX0_clearWeights_29 : decode cX0_clearWeights 29 = .ok (.iload_n 2, 1) := by decide +kernel
theorem dX0_clearWeights_30 : decode cX0_clearWeights 30 = .ok (.dconst 0, 1) := by decide +kernel
theorem dX0_clearWeights_31 : decode cX0_clearWeights 31 = .ok (.dastore, 1) := by decide +kernel
theorem dX0_clearWeights_32 : decode cX0_clearWeights 32 = .ok (.iinc 2 1, 3) := by decide +kernel
theorem dX0_clearWeights_35 : decode cX0_clearWeights 35 = .ok (.goto (-18), 3) := by decide +kernel
theorem dX0_clearWeights_38 : decode cX0_clearWeights 38 = .ok (.iconst 0, 1) := by decide +kernel
theorem dX0_clearWeights_39 : decode cX0_clearWeights 39 = .ok (.istore_n 2, 1) := by decide +kernel
theorem dX0_clearWeights_40 : decode cX0_clearWeights 40 = .ok (.iload_n 2, 1) := by decide +kernel
theorem dX0_clearWeights_41 : decode cX0_clearWeights 41 = .ok (.iconst 4, 1) := by decide +kernel
theorem dX0_clearWeights_42 : decode cX0_clearWeights 42 = .ok (.if_icmp .ge 18, 3) := by decide +kernel
theorem dX0_clearWeights_45 : decode cX0_clearWeights 45 = .ok (.aload_n 0, 1) := by decide +kernel
theorem dX0_clearWeights_46 : decode cX0_clearWeights 46 = .ok (.getfield 29, 3) := by decide +kernel
theorem dX0_clearWeights_49 : decode cX0_clearWeights 49 = .ok (.iload_n 1, 1) := by decide +kernel
theorem dX0_clearWeights_50 : decode cX0_clearWeights 50 = .ok (.aaload, 1) := by decide +kernel
theorem dX0_clearWeights_51 : decode cX0_clearWeights 51 = .ok (.iload_n 2, 1) := by decide +kernel
theorem dX0_clearWeights_52 : decode cX0_clearWeights 52 = .ok (.dconst 0, 1) := by decide +kernel
theorem dX0_clearWeights_53 : decode cX0_clearWeights 53 = .ok (.dastore, 1) := by decide +kernel
theorem dX0_clearWeights_54 : decode cX0_clearWeights 54 = .ok (.iinc 2 1, 3) := by decide +kernel
theorem dX0_clearWeights_57 : decode cX0_clearWeights 57 = .ok (.goto (-17), 3) := by decide +kernel
theorem dX0_clearWeights_60 : decode cX0_clearWeights 60 = .ok (.iinc 1 1, 3) := by decide +kernel
theorem dX0_clearWeights_63 : decode cX0_clearWeights 63 = .ok (.goto (-61), 3) := by decide +kernel
theorem dX0_clearWeights_66 : decode cX0_clearWeights 66 = .ok (.return_, 1) := by decide +kernel
theorem dX0_weightShown_0 : decode cX0_weightShown 0 = .ok (.aload_n 0, 1) := by decide +kernel
theorem dX0_weightShown_1 : decode cX0_weightShown 1 = .ok (.getfield 29, 3) := by decide +kernel
theorem dX0_weightShown_4 : decode cX0_weightShown 4 = .ok (.iload_n 2, 1) := by decide +kernel
theorem dX0_weightShown_5 : decode cX0_weightShown 5 = .ok (.aaload, 1) := by decide +kernel
theorem dX0_weightShown_6 : decode cX0_weightShown 6 = .ok (.aload_n 0, 1) := by decide +kernel
theorem dX0_weightShown_7 : decode cX0_weightShown 7 = .ok (.getfield 16, 3) := by decide +kernel
theorem dX0_weightShown_10 : decode cX0_weightShown 10 = .ok (.iload_n 1, 1) := by decide +kernel
theorem dX0_weightShown_11 : decode cX0_weightShown 11 = .ok (.iaload, 1) := by decide +kernel
theorem dX0_weightShown_12 : decode cX0_weightShown 12 = .ok (.daload, 1) := by decide +kernel
theorem dX0_weightShown_13 : decode cX0_weightShown 13 = .ok (.dreturn, 1) := by decide +kernel
set_option maxRecDepth 20000 in
theorem ggX0_fillForward_X0_sumInto : GoodIn wsX0_fillForward wsX0_sumInto := goodIn_r _ [9, 2, 4, 10, 17, 18, 19, 20, 21, 22, 23, 24, 25, 26, 27] (by decide +kernel) (by decide +kernel)
set_option maxRecDepth 20000 in
theorem gX0_fillForward_X0_sumInto : GoodIn wsX0_fillForward (wsV RX0 109 RX0 yX0_sumInto wsX0_sumInto) := goodIn_app (goodIn_of _ (by decide +kernel)) ggX0_fillForward_X0_sumInto
set_option maxRecDepth 20000 in
theorem ggX0_fillForward_X0_weightShown : GoodIn wsX0_fillForward wsX0_weightShown := goodIn_r _ [14, 15, 16, 17, 18, 19, 20, 21, 22, 23, 24, 25, 26, 27] (by decide +kernel) (by decide +kernel)
set_option maxRecDepth 20000 in
theorem gX0_fillForward_X0_weightShown : GoodIn wsX0_fillForward (wsV RX0 113 RX0 yX0_weightShown wsX0_weightShown) := goodIn_app (goodIn_of _ (by decide +kernel)) ggX0_fillForward_X0_weightShown
theorem dX0_fillForward_0 : decode cX0_fillForward 0 = .ok (.iconst 0, 1) := by decide +kernel
theorem dX0_fillForward_1 : decode cX0_fillForward 1 = .ok (.istore_n 1, 1) := by decide +kernel
theorem dX0_fillForward_2 : decode cX0_fillForward 2 = .ok (.iload_n 1, 1) := by decide +kernel
theorem dX0_fillForward_3 : decode cX0_fillForward 3 = .ok (.aload_n 0, 1) := by decide +kernel
theorem dX0_fillForward_4 : decode cX0_fillForward 4 = .ok (.getfield 13, 3) := by decide +kernel
theorem dX0_fillForward_7 : decode cX0_fillForward 7 = .ok (.if_icmp .ge 61, 3) := by decide +kernel
theorem dX0_fillForward_10 : decode cX0_fillForward 10 = .ok (.iconst 0, 1) := by decide +kernel
theorem dX0_fillForward_11 : decode cX0_fillForward 11 = .ok (.istore_n 2, 1) := by decide +kernel
theorem dX0_fillForward_12 : decode cX0_fillForward 12 = .ok (.iload_n 2, 1) := by decide +kernel
theorem dX0_fillForward_13 : decode cX0_fillForward 13 = .ok (.aload_n 0, 1) := by decide +kernel
theorem dX0_fillForward_14 : decode cX0_fillForward 14 = .ok (.getfield 7, 3) := by decide +kernel
theorem dX0_fillForward_17 : decode cX0_fillForward 17 = .ok (.if_icmp .ge 45, 3) := by decide +kernel
theorem dX0_fillForward_20 : decode cX0_fillForward 20 = .ok (.iload_n 1, 1) := by decide +kernel
theorem dX0_fillForward_21 : decode cX0_fillForward 21 = .ok (.ifCond .ne 12, 3) := by decide +kernel
theorem dX0_fillForward_24 : decode cX0_fillForward 24 = .ok (.aload_n 0, 1) := by decide +kernel
theorem dX0_fillForward_25 : decode cX0_fillForward 25 = .ok (.getfield 20, 3) := by decide +kernel
theorem dX0_fillForward_28 : decode cX0_fillForward 28 = .ok (.iload_n 2, 1) := by decide +kernel
theorem dX0_fillForward_29 : decode cX0_fillForward 29 = .ok (.daload, 1) := by decide +kernel
theorem dX0_fillForward_30 : decode cX0_fillForward 30 = .ok (.goto 9, 3) := by decide +kernel
theorem dX0_fillForward_33 : decode cX0_fillForward 33 = .ok (.aload_n 0, 1) := by decide +kernel
theorem dX0_fillForward_34 : decode cX0_fillForward 34 = .ok (.iload_n 1, 1) := by decide +kernel
theorem dX0_fillForward_35 : decode cX0_fillForward 35 = .ok (.iload_n 2, 1) := by decide +kernel
theorem dX0_fillForward_36 : decode cX0_fillForward 36 = .ok (.invokevirtual 109, 3) := by decide +kernel
theorem dX0_fillForward_39 : decode cX0_fillForward 39 = .ok (.dstore_n 3, 1) := by decide +kernel
theorem dX0_fillForward_40 : decode cX0_fillForward 40 = .ok (.aload_n 0, 1) := by decide +kernel
theorem dX0_fillForward_41 : decode cX0_fillForward 41 = .ok (.getfield 32, 3) := by decide +kernel
theorem dX0_fillForward_44 : decode cX0_fillForward 44 = .ok (.iload_n 1, 1) := by decide +kernel
theorem dX0_fillForward_45 : decode cX0_fillForward 45 = .ok (.aaload, 1) := by decide +kernel
theorem dX0_fillForward_46 : decode cX0_fillForward 46 = .ok (.iload_n 2, 1) := by decide +kernel
theorem dX0_fillForward_47 : decode cX0_fillForward 47 = .ok (.dload_n 3, 1) := by decide +kernel
theorem dX0_fillForward_48 : decode cX0_fillForward 48 = .ok (.aload_n 0, 1) := by decide +kernel
theorem dX0_fillForward_49 : decode cX0_fillForward 49 = .ok (.iload_n 1, 1) := by decide +kernel
theorem dX0_fillForward_50 : decode cX0_fillForward 50 = .ok (.iload_n 2, 1) := by decide +kernel
theorem dX0_fillForward_51 : decode cX0_fillForward 51 = .ok (.invokevirtual 113, 3) := by decide +kernel
theorem dX0_fillForward_54 : decode cX0_fillForward 54 = .ok (.dmul, 1) := by decide +kernel
theorem dX0_fillForward_55 : decode cX0_fillForward 55 = .ok (.dastore, 1) := by decide +kernel
theorem dX0_fillForward_56 : decode cX0_fillForward 56 = .ok (.iinc 2 1, 3) := by decide +kernel
theorem dX0_fillForward_59 : decode cX0_fillForward 59 = .ok (.goto (-47), 3) := by decide +kernel
theorem dX0_fillForward_62 : decode cX0_fillForward 62 = .ok (.iinc 1 1, 3) := by decide +kernel
theorem dX0_fillForward_65 : decode cX0_fillForward 65 = .ok (.goto (-63), 3) := by decide +kernel
theorem dX0_fillForward_68 : decode cX0_fillForward 68 = .ok (.return_, 1) := by decide +kernel
theorem dX0_sumInto_0 : decode cX0_sumInto 0 = .ok (.dconst 0, 1) := by decide +kernel
theorem dX0_sumInto_1 : decode cX0_sumInto 1 = .ok (.dstore_n 3, 1) := by decide +kernel
theorem dX0_sumInto_2 : decode cX0_sumInto 2 = .ok (.iconst 0, 1) := by decide +kernel
theorem dX0_sumInto_3 : decode cX0_sumInto 3 = .ok (.istore 5, 2) := by decide +kernel
theorem dX0_sumInto_5 : decode cX0_sumInto 5 = .ok (.iload 5, 2) := by decide +kernel
theorem dX0_sumInto_7 : decode cX0_sumInto 7 = .ok (.aload_n 0, 1) := by decide +kernel
theorem dX0_sumInto_8 : decode cX0_sumInto 8 = .ok (.getfield 7, 3) := by decide +kernel
theorem dX0_sumInto_11 : decode cX0_sumInto 11 = .ok (.if_icmp .ge 33, 3) := by decide +kernel
theorem dX0_sumInto_14 : decode cX0_sumInto 14 = .ok (.dload_n 3, 1) := by decide +kernel
theorem dX0_sumInto_15 : decode cX0_sumInto 15 = .ok (.aload_n 0, 1) := by decide +kernel
theorem dX0_sumInto_16 : decode cX0_sumInto 16 = .ok (.getfield 32, 3) := by decide +kernel
theorem dX0_sumInto_19 : decode cX0_sumInto 19 = .ok (.iload_n 1, 1) := by decide +kernel
theorem dX0_sumInto_20 : decode cX0_sumInto 20 = .ok (.iconst 1, 1) := by decide +kernel
theorem dX0_sumInto_21 : decode cX0_sumInto 21 = .ok (.isub, 1) := by decide +kernel
theorem dX0_sumInto_22 : decode cX0_sumInto 22 = .ok (.aaload, 1) := by decide +kernel
theorem dX0_sumInto_23 : decode cX0_sumInto 23 = .ok (.iload 5, 2) := by decide +kernel
theorem dX0_sumInto_25 : decode cX0_sumInto 25 = .ok (.daload, 1) := by decide +kernel
theorem dX0_sumInto_26 : decode cX0_sumInto 26 = .ok (.aload_n 0, 1) := by decide +kernel
theorem dX0_sumInto_27 : decode cX0_sumInto 27 = .ok (.getfield 26, 3) := by decide +kernel
theorem dX0_sumInto_30 : decode cX0_sumInto 30 = .ok (.iload 5, 2) := by decide +kernel
theorem dX0_sumInto_32 : decode cX0_sumInto 32 = .ok (.aaload, 1) := by decide +kernel
theorem dX0_sumInto_33 : decode cX0_sumInto 33 = .ok (.iload_n 2, 1) := by decide +kernel
theorem dX0_sumInto_34 : decode cX0_sumInto 34 = .ok (.daload, 1) := by decide +kernel
theorem dX0_sumInto_35 : decode cX0_sumInto 35 = .ok (.dmul, 1) := by decide +kernel
theorem dX0_sumInto_36 : decode cX0_sumInto 36 = .ok (.dadd, 1) := by decide +kernel
theorem dX0_sumInto_37 : decode cX0_sumInto 37 = .ok (.dstore_n 3, 1) := by decide +kernel
theorem dX0_sumInto_38 : decode cX0_sumInto 38 = .ok (.iinc 5 1, 3) := by decide +kernel
theorem dX0_sumInto_41 : decode cX0_sumInto 41 = .ok (.goto (-36), 3) := by decide +kernel
theorem dX0_sumInto_44 : decode cX0_sumInto 44 = .ok (.dload_n 3, 1) := by decide +kernel
theorem dX0_sumInto_45 : decode cX0_sumInto 45 = .ok (.dreturn, 1) := by decide +kernel
theorem dX0_sumAtLast_0 : decode cX0_sumAtLast 0 = .ok (.dconst 0, 1) := by decide +kernel
theorem dX0_sumAtLast_1 : decode cX0_sumAtLast 1 = .ok (.dstore_n 1, 1) := by decide +kernel
theorem dX0_sumAtLast_2 : decode cX0_sumAtLast 2 = .ok (.iconst 0, 1) := by decide +kernel
theorem dX0_sumAtLast_3 : decode cX0_sumAtLast 3 = .ok (.istore_n 3, 1) := by decide +kernel
theorem dX0_sumAtLast_4 : decode cX0_sumAtLast 4 = .ok (.iload_n 3, 1) := by decide +kernel
theorem dX0_sumAtLast_5 : decode cX0_sumAtLast 5 = .ok (.aload_n 0, 1) := by decide +kernel
theorem dX0_sumAtLast_6 : decode cX0_sumAtLast 6 = .ok (.getfield 7, 3) := by decide +kernel
theorem dX0_sumAtLast_9 : decode cX0_sumAtLast 9 = .ok (.if_icmp .ge 25, 3) := by decide +kernel
theorem dX0_sumAtLast_12 : decode cX0_sumAtLast 12 = .ok (.dload_n 1, 1) := by decide +kernel
theorem dX0_sumAtLast_13 : decode cX0_sumAtLast 13 = .ok (.aload_n 0, 1) := by decide +kernel
theorem dX0_sumAtLast_14 : decode cX0_sumAtLast 14 = .ok (.getfield 32, 3) := by decide +kernel
theorem dX0_sumAtLast_17 : decode cX0_sumAtLast 17 = .ok (.aload_n 0, 1) := by decide +kernel
theorem dX0_sumAtLast_18 : decode cX0_sumAtLast 18 = .ok (.getfield 13, 3) := by decide +kernel
theorem dX0_sumAtLast_21 : decode cX0_sumAtLast 21 = .ok (.iconst 1, 1) := by decide +kernel
theorem dX0_sumAtLast_22 : decode cX0_sumAtLast 22 = .ok (.isub, 1) := by decide +kernel
theorem dX0_sumAtLast_23 : decode cX0_sumAtLast 23 = .ok (.aaload, 1) := by decide +kernel
theorem dX0_sumAtLast_24 : decode cX0_sumAtLast 24 = .ok (.iload_n 3, 1) := by decide +kernel
theorem dX0_sumAtLast_25 : decode cX0_sumAtLast 25 = .ok (.daload, 1) := by decide +kernel
theorem dX0_sumAtLast_26 : decode cX0_sumAtLast 26 = .ok (.dadd, 1) := by decide +kernel
theorem dX0_sumAtLast_27 : decode cX0_sumAtLast 27 = .ok (.dstore_n 1, 1) := by decide +kernel
theorem dX0_sumAtLast_28 : decode cX0_sumAtLast 28 = .ok (.iinc 3 1, 3) := by decide +kernel
theorem dX0_sumAtLast_31 : decode cX0_sumAtLast 31 = .ok (.goto (-27), 3) := by decide +kernel
theorem dX0_sumAtLast_34 : decode cX0_sumAtLast 34 = .ok (.dload_n 1, 1) := by decide +kernel
theorem dX0_sumAtLast_35 : decode cX0_sumAtLast 35 = .ok (.dreturn, 1) := by decide +kernel
set_option maxRecDepth 20000 in
theorem ggX0_fillBackward_X0_sumOutOf : GoodIn wsX0_fillBackward wsX0_sumOutOf := goodIn_r _ [8, 2, 9, 3, 10, 11, 12, 7, 13, 14, 15, 16, 17, 18, 19, 20, 21, 22, 23, 24, 25, 26] (by decide +kernel) (by decide +kernel)
set_option maxRecDepth 20000 in
theorem gX0_fillBackward_X0_sumOutOf : GoodIn wsX0_fillBackward (wsV RX0 116 RX0 yX0_sumOutOf wsX0_sumOutOf) := goodIn_app (goodIn_of _ (by decide +kernel)) ggX0_fillBackward_X0_sumOutOf
theorem dX0_fillBackward_0 : decode cX0_fillBackward 0 = .ok (.aload_n 0, 1) := by decide +kernel
theorem dX0_fillBackward_1 : decode cX0_fillBackward 1 = .ok (.getfield 13, 3) := by decide +kernel
theorem dX0_fillBackward_4 : decode cX0_fillBackward 4 = .ok (.iconst 1, 1) := by decide +kernel
theorem dX0_fillBackward_5 : decode cX0_fillBackward 5 = .ok (.isub, 1) := by decide +kernel
theorem dX0_fillBackward_6 : decode cX0_fillBackward 6 = .ok (.istore_n 1, 1) := by decide +kernel
theorem dX0_fillBackward_7 : decode cX0_fillBackward 7 = .ok (.iload_n 1, 1) := by decide +kernel
theorem dX0_fillBackward_8 : decode cX0_fillBackward 8 = .ok (.ifCond .lt 53, 3) := by decide +kernel
theorem dX0_fillBackward_11 : decode cX0_fillBackward 11 = .ok (.iconst 0, 1) := by decide +kernel
theorem dX0_fillBackward_12 : decode cX0_fillBackward 12 = .ok (.istore_n 2, 1) := by decide +kernel
theorem dX0_fillBackward_13 : decode cX0_fillBackward 13 = .ok (.iload_n 2, 1) := by decide +kernel
theorem dX0_fillBackward_14 : decode cX0_fillBackward 14 = .ok (.aload_n 0, 1) := by decide +kernel
theorem dX0_fillBackward_15 : decode cX0_fillBackward 15 = .ok (.getfield 7, 3) := by decide +kernel
theorem dX0_fillBackward_18 : decode cX0_fillBackward 18 = .ok (.if_icmp .ge 37, 3) := by decide +kernel
theorem dX0_fillBackward_21 : decode cX0_fillBackward 21 = .ok (.aload_n 0, 1) := by decide +kernel
theorem dX0_fillBackward_22 : decode cX0_fillBackward 22 = .ok (.getfield 35, 3) := by decide +kernel
theorem dX0_fillBackward_25 : decode cX0_fillBackward 25 = .ok (.iload_n 1, 1) := by decide +kernel
theorem dX0_fillBackward_26 : decode cX0_fillBackward 26 = .ok (.aaload, 1) := by decide +kernel
theorem dX0_fillBackward_27 : decode cX0_fillBackward 27 = .ok (.iload_n 2, 1) := by decide +kernel
theorem dX0_fillBackward_28 : decode cX0_fillBackward 28 = .ok (.iload_n 1, 1) := by decide +kernel
theorem dX0_fillBackward_29 : decode cX0_fillBackward 29 = .ok (.aload_n 0, 1) := by decide +kernel
theorem dX0_fillBackward_30 : decode cX0_fillBackward 30 = .ok (.getfield 13, 3) := by decide +kernel
theorem dX0_fillBackward_33 : decode cX0_fillBackward 33 = .ok (.iconst 1, 1) := by decide +kernel
theorem dX0_fillBackward_34 : decode cX0_fillBackward 34 = .ok (.isub, 1) := by decide +kernel
theorem dX0_fillBackward_35 : decode cX0_fillBackward 35 = .ok (.if_icmp .ne 7, 3) := by decide +kernel
theorem dX0_fillBackward_38 : decode cX0_fillBackward 38 = .ok (.dconst 1, 1) := by decide +kernel
theorem dX0_fillBackward_39 : decode cX0_fillBackward 39 = .ok (.goto 9, 3) := by decide +kernel
theorem dX0_fillBackward_42 : decode cX0_fillBackward 42 = .ok (.aload_n 0, 1) := by decide +kernel
theorem dX0_fillBackward_43 : decode cX0_fillBackward 43 = .ok (.iload_n 1, 1) := by decide +kernel
theorem dX0_fillBackward_44 : decode cX0_fillBackward 44 = .ok (.iload_n 2, 1) := by decide +kernel
theorem dX0_fillBackward_45 : decode cX0_fillBackward 45 = .ok (.invokevirtual 116, 3) := by decide +kernel
theorem dX0_fillBackward_48 : decode cX0_fillBackward 48 = .ok (.dastore, 1) := by decide +kernel
theorem dX0_fillBackward_49 : decode cX0_fillBackward 49 = .ok (.iinc 2 1, 3) := by decide +kernel
theorem dX0_fillBackward_52 : decode cX0_fillBackward 52 = .ok (.goto (-39), 3) := by decide +kernel
theorem dX0_fillBackward_55 : decode cX0_fillBackward 55 = .ok (.iinc 1 (-1), 3) := by decide +kernel
theorem dX0_fillBackward_58 : decode cX0_fillBackward 58 = .ok (.goto (-51), 3) := by decide +kernel
theorem dX0_fillBackward_61 : decode cX0_fillBackward 61 = .ok (.return_, 1) := by decide +kernel
set_option maxRecDepth 20000 in
theorem ggX0_sumOutOf_X0_weightShown : GoodIn wsX0_sumOutOf wsX0_weightShown := goodIn_r _ [8, 9, 10, 11, 12, 13, 14, 15, 16, 17, 18, 19, 20, 21] (by decide +kernel) (by decide +kernel)
set_option maxRecDepth 20000 in
theorem gX0_sumOutOf_X0_weightShown : GoodIn wsX0_sumOutOf (wsV RX0 113 RX0 yX0_weightShown wsX0_weightShown) := goodIn_app (goodIn_of _ (by decide +kernel)) ggX0_sumOutOf_X0_weightShown
theorem dX0_sumOutOf_0 : decode cX0_sumOutOf 0 = .ok (.dconst 0, 1) := by decide +kernel
theorem dX0_sumOutOf_1 : decode cX0_sumOutOf 1 = .ok (.dstore_n 3, 1) := by decide +kernel
theorem dX0_sumOutOf_2 : decode cX0_sumOutOf 2 = .ok (.iconst 0, 1) := by decide +kernel
theorem dX0_sumOutOf_3 : decode cX0_sumOutOf 3 = .ok (.istore 5, 2) := by decide +kernel
theorem dX0_sumOutOf_5 : decode cX0_sumOutOf 5 = .ok (.iload 5, 2) := by decide +kernel
theorem dX0_sumOutOf_7 : decode cX0_sumOutOf 7 = .ok (.aload_n 0, 1) := by decide +kernel
theorem dX0_sumOutOf_8 : decode cX0_sumOutOf 8 = .ok (.getfield 7, 3) := by decide +kernel
theorem dX0_sumOutOf_11 : decode cX0_sumOutOf 11 = .ok (.if_icmp .ge 43, 3) := by decide +kernel
theorem dX0_sumOutOf_14 : decode cX0_sumOutOf 14 = .ok (.dload_n 3, 1) := by decide +kernel
theorem dX0_sumOutOf_15 : decode cX0_sumOutOf 15 = .ok (.aload_n 0, 1) := by decide +kernel
theorem dX0_sumOutOf_16 : decode cX0_sumOutOf 16 = .ok (.getfield 26, 3) := by decide +kernel
theorem dX0_sumOutOf_19 : decode cX0_sumOutOf 19 = .ok (.iload_n 2, 1) := by decide +kernel
theorem dX0_sumOutOf_20 : decode cX0_sumOutOf 20 = .ok (.aaload, 1) := by decide +kernel
theorem dX0_sumOutOf_21 : decode cX0_sumOutOf 21 = .ok (.iload 5, 2) := by decide +kernel
theorem dX0_sumOutOf_23 : decode cX0_sumOutOf 23 = .ok (.daload, 1) := by decide +kernel
theorem dX0_sumOutOf_24 : decode cX0_sumOutOf 24 = .ok (.aload_n 0, 1) := by decide +kernel
theorem dX0_sumOutOf_25 : decode cX0_sumOutOf 25 = .ok (.iload_n 1, 1) := by decide +kernel
theorem dX0_sumOutOf_26 : decode cX0_sumOutOf 26 = .ok (.iconst 1, 1) := by decide +kernel
theorem dX0_sumOutOf_27 : decode cX0_sumOutOf 27 = .ok (.iadd, 1) := by decide +kernel
theorem dX0_sumOutOf_28 : decode cX0_sumOutOf 28 = .ok (.iload 5, 2) := by decide +kernel
theorem dX0_sumOutOf_30 : decode cX0_sumOutOf 30 = .ok (.invokevirtual 113, 3) := by decide +kernel
theorem dX0_sumOutOf_33 : decode cX0_sumOutOf 33 = .ok (.dmul, 1) := by decide +kernel
theorem dX0_sumOutOf_34 : decode cX0_sumOutOf 34 = .ok (.aload_n 0, 1) := by decide +kernel
theorem dX0_sumOutOf_35 : decode cX0_sumOutOf 35 = .ok (.getfield 35, 3) := by decide +kernel
theorem dX0_sumOutOf_38 : decode cX0_sumOutOf 38 = .ok (.iload_n 1, 1) := by decide +kernel
theorem dX0_sumOutOf_39 : decode cX0_sumOutOf 39 = .ok (.iconst 1, 1) := by decide +kernel
theorem dX0_sumOutOf_40 : decode cX0_sumOutOf 40 = .ok (.iadd, 1) := by decide +kernel
theorem dX0_sumOutOf_41 : decode cX0_sumOutOf 41 = .ok (.aaload, 1) := by decide +kernel
theorem dX0_sumOutOf_42 : decode cX0_sumOutOf 42 = .ok (.iload 5, 2) := by decide +kernel
theorem dX0_sumOutOf_44 : decode cX0_sumOutOf 44 = .ok (.daload, 1) := by decide +kernel
theorem dX0_sumOutOf_45 : decode cX0_sumOutOf 45 = .ok (.dmul, 1) := by decide +kernel
theorem dX0_sumOutOf_46 : decode cX0_sumOutOf 46 = .ok (.dadd, 1) := by decide +kernel
theorem dX0_sumOutOf_47 : decode cX0_sumOutOf 47 = .ok (.dstore_n 3, 1) := by decide +kernel
theorem dX0_sumOutOf_48 : decode cX0_sumOutOf 48 = .ok (.iinc 5 1, 3) := by decide +kernel
theorem dX0_sumOutOf_51 : decode cX0_sumOutOf 51 = .ok (.goto (-46), 3) := by decide +kernel
theorem dX0_sumOutOf_54 : decode cX0_sumOutOf 54 = .ok (.dload_n 3, 1) := by decide +kernel
theorem dX0_sumOutOf_55 : decode cX0_sumOutOf 55 = .ok (.dreturn, 1) := by decide +kernel
set_option maxRecDepth 20000 in
theorem ggX0_fillBest_X0_weightShown : GoodIn wsX0_fillBest wsX0_weightShown := goodIn_r _ [11, 12, 13, 18, 19, 20, 21, 22, 23, 24, 25, 26, 27, 28] (by decide +kernel) (by decide +kernel)
set_option maxRecDepth 20000 in
theorem gX0_fillBest_X0_weightShown : GoodIn wsX0_fillBest (wsV RX0 113 RX0 yX0_weightShown wsX0_weightShown) := goodIn_app (goodIn_of _ (by decide +kernel)) ggX0_fillBest_X0_weightShown
set_option maxRecDepth 20000 in
theorem ggX0_fillBest_X0_lowestBestInto : GoodIn wsX0_fillBest wsX0_lowestBestInto := goodIn_r _ [17, 2, 6, 1, 18, 19, 20, 21, 22, 23, 24, 25, 26, 27, 28] (by decide +kernel) (by decide +kernel)
set_option maxRecDepth 20000 in
theorem gX0_fillBest_X0_lowestBestInto : GoodIn wsX0_fillBest (wsV RX0 119 RX0 yX0_lowestBestInto wsX0_lowestBestInto) := goodIn_app (goodIn_of _ (by decide +kernel)) ggX0_fillBest_X0_lowestBestInto
theorem dX0_fillBest_0 : decode cX0_fillBest 0 = .ok (.iconst 0, 1) := by decide +kernel
theorem dX0_fillBest_1 : decode cX0_fillBest 1 = .ok (.istore_n 1, 1) := by decide +kernel
theorem dX0_fillBest_2 : decode cX0_fillBest 2 = .ok (.iload_n 1, 1) := by decide +kernel
theorem dX0_fillBest_3 : decode cX0_fillBest 3 = .ok (.aload_n 0, 1) := by decide +kernel
theorem dX0_fillBest_4 : decode cX0_fillBest 4 = .ok (.getfield 7, 3) := by decide +kernel
theorem dX0_fillBest_7 : decode cX0_fillBest 7 = .ok (.if_icmp .ge 30, 3) := by decide +kernel
theorem dX0_fillBest_10 : decode cX0_fillBest 10 = .ok (.aload_n 0, 1) := by decide +kernel
theorem dX0_fillBest_11 : decode cX0_fillBest 11 = .ok (.getfield 38, 3) := by decide +kernel
theorem dX0_fillBest_14 : decode cX0_fillBest 14 = .ok (.iconst 0, 1) := by decide +kernel
theorem dX0_fillBest_15 : decode cX0_fillBest 15 = .ok (.aaload, 1) := by decide +kernel
theorem dX0_fillBest_16 : decode cX0_fillBest 16 = .ok (.iload_n 1, 1) := by decide +kernel
theorem dX0_fillBest_17 : decode cX0_fillBest 17 = .ok (.aload_n 0, 1) := by decide +kernel
theorem dX0_fillBest_18 : decode cX0_fillBest 18 = .ok (.getfield 20, 3) := by decide +kernel
theorem dX0_fillBest_21 : decode cX0_fillBest 21 = .ok (.iload_n 1, 1) := by decide +kernel
theorem dX0_fillBest_22 : decode cX0_fillBest 22 = .ok (.daload, 1) := by decide +kernel
theorem dX0_fillBest_23 : decode cX0_fillBest 23 = .ok (.aload_n 0, 1) := by decide +kernel
theorem dX0_fillBest_24 : decode cX0_fillBest 24 = .ok (.iconst 0, 1) := by decide +kernel
theorem dX0_fillBest_25 : decode cX0_fillBest 25 = .ok (.iload_n 1, 1) := by decide +kernel
theorem dX0_fillBest_26 : decode cX0_fillBest 26 = .ok (.invokevirtual 113, 3) := by decide +kernel
theorem dX0_fillBest_29 : decode cX0_fillBest 29 = .ok (.dmul, 1) := by decide +kernel
theorem dX0_fillBest_30 : decode cX0_fillBest 30 = .ok (.dastore, 1) := by decide +kernel
theorem dX0_fillBest_31 : decode cX0_fillBest 31 = .ok (.iinc 1 1, 3) := by decide +kernel
theorem dX0_fillBest_34 : decode cX0_fillBest 34 = .ok (.goto (-32), 3) := by decide +kernel
theorem dX0_fillBest_37 : decode cX0_fillBest 37 = .ok (.iconst 1, 1) := by decide +kernel
theorem dX0_fillBest_38 : decode cX0_fillBest 38 = .ok (.istore_n 1, 1) := by decide +kernel
theorem dX0_fillBest_39 : decode cX0_fillBest 39 = .ok (.iload_n 1, 1) := by decide +kernel
theorem dX0_fillBest_40 : decode cX0_fillBest 40 = .ok (.aload_n 0, 1) := by decide +kernel
theorem dX0_fillBest_41 : decode cX0_fillBest 41 = .ok (.getfield 13, 3) := by decide +kernel
theorem dX0_fillBest_44 : decode cX0_fillBest 44 = .ok (.if_icmp .ge 75, 3) := by decide +kernel
theorem dX0_fillBest_47 : decode cX0_fillBest 47 = .ok (.iconst 0, 1) := by decide +kernel
theorem dX0_fillBest_48 : decode cX0_fillBest 48 = .ok (.istore_n 2, 1) := by decide +kernel
theorem dX0_fillBest_49 : decode cX0_fillBest 49 = .ok (.iload_n 2, 1) := by decide +kernel
theorem dX0_fillBest_50 : decode cX0_fillBest 50 = .ok (.aload_n 0, 1) := by decide +kernel
theorem dX0_fillBest_51 : decode cX0_fillBest 51 = .ok (.getfield 7, 3) := by decide +kernel
theorem dX0_fillBest_54 : decode cX0_fillBest 54 = .ok (.if_icmp .ge 59, 3) := by decide +kernel
theorem dX0_fillBest_57 : decode cX0_fillBest 57 = .ok (.aload_n 0, 1) := by decide +kernel
theorem dX0_fillBest_58 : decode cX0_fillBest 58 = .ok (.iload_n 1, 1) := by decide +kernel
theorem dX0_fillBest_59 : decode cX0_fillBest 59 = .ok (.iload_n 2, 1) := by decide +kernel
theorem dX0_fillBest_60 : decode cX0_fillBest 60 = .ok (.invokevirtual 119, 3) := by decide +kernel
theorem dX0_fillBest_63 : decode cX0_fillBest 63 = .ok (.istore_n 3, 1) := by decide +kernel
theorem dX0_fillBest_64 : decode cX0_fillBest 64 = .ok (.aload_n 0, 1) := by decide +kernel
theorem dX0_fillBest_65 : decode cX0_fillBest 65 = .ok (.getfield 43, 3) := by decide +kernel
theorem dX0_fillBest_68 : decode cX0_fillBest 68 = .ok (.iload_n 1, 1) := by decide +kernel
theorem dX0_fillBest_69 : decode cX0_fillBest 69 = .ok (.aaload, 1) := by decide +kernel
theorem dX0_fillBest_70 : decode cX0_fillBest 70 = .ok (.iload_n 2, 1) := by decide +kernel
theorem dX0_fillBest_71 : decode cX0_fillBest 71 = .ok (.iload_n 3, 1) := by decide +kernel
theorem dX0_fillBest_72 : decode cX0_fillBest 72 = .ok (.iastore, 1) := by decide +kernel
theorem dX0_fillBest_73 : decode cX0_fillBest 73 = .ok (.aload_n 0, 1) := by decide +kernel
theorem dX0_fillBest_74 : decode cX0_fillBest 74 = .ok (.getfield 38, 3) := by decide +kernel
theorem dX0_fillBest_77 : decode cX0_fillBest 77 = .ok (.iload_n 1, 1) := by decide +kernel
theorem dX0_fillBest_78 : decode cX0_fillBest 78 = .ok (.aaload, 1) := by decide +kernel
theorem dX0_fillBest_79 : decode cX0_fillBest 79 = .ok (.iload_n 2, 1) := by decide +kernel
theorem dX0_fillBest_80 : decode cX0_fillBest 80 = .ok (.aload_n 0, 1) := by decide +kernel
theorem dX0_fillBest_81 : decode cX0_fillBest 81 = .ok (.getfield 38, 3) := by decide +kernel
theorem dX0_fillBest_84 : decode cX0_fillBest 84 = .ok (.iload_n 1, 1) := by decide +kernel
theorem dX0_fillBest_85 : decode cX0_fillBest 85 = .ok (.iconst 1, 1) := by decide +kernel
theorem dX0_fillBest_86 : decode cX0_fillBest 86 = .ok (.isub, 1) := by decide +kernel
theorem dX0_fillBest_87 : decode cX0_fillBest 87 = .ok (.aaload, 1) := by decide +kernel
theorem dX0_fillBest_88 : decode cX0_fillBest 88 = .ok (.iload_n 3, 1) := by decide +kernel
theorem dX0_fillBest_89 : decode cX0_fillBest 89 = .ok (.daload, 1) := by decide +kernel
theorem dX0_fillBest_90 : decode cX0_fillBest 90 = .ok (.aload_n 0, 1) := by decide +kernel
theorem dX0_fillBest_91 : decode cX0_fillBest 91 = .ok (.getfield 26, 3) := by decide +kernel
theorem dX0_fillBest_94 : decode cX0_fillBest 94 = .ok (.iload_n 3, 1) := by decide +kernel
theorem dX0_fillBest_95 : decode cX0_fillBest 95 = .ok (.aaload, 1) := by decide +kernel
theorem dX0_fillBest_96 : decode cX0_fillBest 96 = .ok (.iload_n 2, 1) := by decide +kernel
theorem dX0_fillBest_97 : decode cX0_fillBest 97 = .ok (.daload, 1) := by decide +kernel
theorem dX0_fillBest_98 : decode cX0_fillBest 98 = .ok (.dmul, 1) := by decide +kernel
theorem dX0_fillBest_99 : decode cX0_fillBest 99 = .ok (.aload_n 0, 1) := by decide +kernel
theorem dX0_fillBest_100 : decode cX0_fillBest 100 = .ok (.iload_n 1, 1) := by decide +kernel
theorem dX0_fillBest_101 : decode cX0_fillBest 101 = .ok (.iload_n 2, 1) := by decide +kernel
theorem dX0_fillBest_102 : decode cX0_fillBest 102 = .ok (.invokevirtual 113, 3) := by decide +kernel
theorem dX0_fillBest_105 : decode cX0_fillBest 105 = .ok (.dmul, 1) := by decide +kernel
theorem dX0_fillBest_106 : decode cX0_fillBest 106 = .ok (.dastore, 1) := by decide +kernel
theorem dX0_fillBest_107 : decode cX0_fillBest 107 = .ok (.iinc 2 1, 3) := by decide +kernel
theorem dX0_fillBest_110 : decode cX0_fillBest 110 = .ok (.goto (-61), 3) := by decide +kernel
theorem dX0_fillBest_113 : decode cX0_fillBest 113 = .ok (.iinc 1 1, 3) := by decide +kernel
theorem dX0_fillBest_116 : decode cX0_fillBest 116 = .ok (.goto (-77), 3) := by decide +kernel
theorem dX0_fillBest_119 : decode cX0_fillBest 119 = .ok (.return_, 1) := by decide +kernel
theorem dX0_lowestBestInto_0 : decode cX0_lowestBestInto 0 = .ok (.iconst 0, 1) := by decide +kernel
theorem dX0_lowestBestInto_1 : decode cX0_lowestBestInto 1 = .ok (.istore_n 3, 1) := by decide +kernel
theorem dX0_lowestBestInto_2 : decode cX0_lowestBestInto 2 = .ok (.aload_n 0, 1) := by decide +kernel
theorem dX0_lowestBestInto_3 : decode cX0_lowestBestInto 3 = .ok (.getfield 38, 3) := by decide +kernel
theorem dX0_lowestBestInto_6 : decode cX0_lowestBestInto 6 = .ok (.iload_n 1, 1) := by decide +kernel
theorem dX0_lowestBestInto_7 : decode cX0_lowestBestInto 7 = .ok (.iconst 1, 1) := by decide +kernel
theorem dX0_lowestBestInto_8 : decode cX0_lowestBestInto 8 = .ok (.isub, 1) := by decide +kernel
theorem dX0_lowestBestInto_9 : decode cX0_lowestBestInto 9 = .ok (.aaload, 1) := by decide +kernel
theorem dX0_lowestBestInto_10 : decode cX0_lowestBestInto 10 = .ok (.iconst 0, 1) := by decide +kernel
theorem dX0_lowestBestInto_11 : decode cX0_lowestBestInto 11 = .ok (.daload, 1) := by decide +kernel
theorem dX0_lowestBestInto_12 : decode cX0_lowestBestInto 12 = .ok (.aload_n 0, 1) := by decide +kernel
theorem dX0_lowestBestInto_13 : decode cX0_lowestBestInto 13 = .ok (.getfield 26, 3) := by decide +kernel
theorem dX0_lowestBestInto_16 : decode cX0_lowestBestInto 16 = .ok (.iconst 0, 1) := by decide +kernel
theorem dX0_lowestBestInto_17 : decode cX0_lowestBestInto 17 = .ok (.aaload, 1) := by decide +kernel
theorem dX0_lowestBestInto_18 : decode cX0_lowestBestInto 18 = .ok (.iload_n 2, 1) := by decide +kernel
theorem dX0_lowestBestInto_19 : decode cX0_lowestBestInto 19 = .ok (.daload, 1) := by decide +kernel
theorem dX0_lowestBestInto_20 : decode cX0_lowestBestInto 20 = .ok (.dmul, 1) := by decide +kernel
theorem dX0_lowestBestInto_21 : decode cX0_lowestBestInto 21 = .ok (.dstore 4, 2) := by decide +kernel
theorem dX0_lowestBestInto_23 : decode cX0_lowestBestInto 23 = .ok (.iconst 1, 1) := by decide +kernel
theorem dX0_lowestBestInto_24 : decode cX0_lowestBestInto 24 = .ok (.istore 6, 2) := by decide +kernel
theorem dX0_lowestBestInto_26 : decode cX0_lowestBestInto 26 = .ok (.iload 6, 2) := by decide +kernel
theorem dX0_lowestBestInto_28 : decode cX0_lowestBestInto 28 = .ok (.aload_n 0, 1) := by decide +kernel
theorem dX0_lowestBestInto_29 : decode cX0_lowestBestInto 29 = .ok (.getfield 7, 3) := by decide +kernel
theorem dX0_lowestBestInto_32 : decode cX0_lowestBestInto 32 = .ok (.if_icmp .ge 47, 3) := by decide +kernel
theorem dX0_lowestBestInto_35 : decode cX0_lowestBestInto 35 = .ok (.aload_n 0, 1) := by decide +kernel
theorem dX0_lowestBestInto_36 : decode cX0_lowestBestInto 36 = .ok (.getfield 38, 3) := by decide +kernel
theorem dX0_lowestBestInto_39 : decode cX0_lowestBestInto 39 = .ok (.iload_n 1, 1) := by decide +kernel
theorem dX0_lowestBestInto_40 : decode cX0_lowestBestInto 40 = .ok (.iconst 1, 1) := by decide +kernel
theorem dX0_lowestBestInto_41 : decode cX0_lowestBestInto 41 = .ok (.isub, 1) := by decide +kernel
theorem dX0_lowestBestInto_42 : decode cX0_lowestBestInto 42 = .ok (.aaload, 1) := by decide +kernel
theorem dX0_lowestBestInto_43 : decode cX0_lowestBestInto 43 = .ok (.iload 6, 2) := by decide +kernel
theorem dX0_lowestBestInto_45 : decode cX0_lowestBestInto 45 = .ok (.daload, 1) := by decide +kernel
theorem dX0_lowestBestInto_46 : decode cX0_lowestBestInto 46 = .ok (.aload_n 0, 1) := by decide +kernel
theorem dX0_lowestBestInto_47 : decode cX0_lowestBestInto 47 = .ok (.getfield 26, 3) := by decide +kernel
theorem dX0_lowestBestInto_50 : decode cX0_lowestBestInto 50 = .ok (.iload 6, 2) := by decide +kernel
theorem dX0_lowestBestInto_52 : decode cX0_lowestBestInto 52 = .ok (.aaload, 1) := by decide +kernel
theorem dX0_lowestBestInto_53 : decode cX0_lowestBestInto 53 = .ok (.iload_n 2, 1) := by decide +kernel
theorem dX0_lowestBestInto_54 : decode cX0_lowestBestInto 54 = .ok (.daload, 1) := by decide +kernel
theorem dX0_lowestBestInto_55 : decode cX0_lowestBestInto 55 = .ok (.dmul, 1) := by decide +kernel
theorem dX0_lowestBestInto_56 : decode cX0_lowestBestInto 56 = .ok (.dstore 7, 2) := by decide +kernel
theorem dX0_lowestBestInto_58 : decode cX0_lowestBestInto 58 = .ok (.dload 7, 2) := by decide +kernel
theorem dX0_lowestBestInto_60 : decode cX0_lowestBestInto 60 = .ok (.dload 4, 2) := by decide +kernel
theorem dX0_lowestBestInto_62 : decode cX0_lowestBestInto 62 = .ok (.dcmp .l, 1) := by decide +kernel
theorem dX0_lowestBestInto_63 : decode cX0_lowestBestInto 63 = .ok (.ifCond .le 10, 3) := by decide +kernel
theorem dX0_lowestBestInto_66 : decode cX0_lowestBestInto 66 = .ok (.iload 6, 2) := by decide +kernel
theorem dX0_lowestBestInto_68 : decode cX0_lowestBestInto 68 = .ok (.istore_n 3, 1) := by decide +kernel
theorem dX0_lowestBestInto_69 : decode cX0_lowestBestInto 69 = .ok (.dload 7, 2) := by decide +kernel
theorem dX0_lowestBestInto_71 : decode cX0_lowestBestInto 71 = .ok (.dstore 4, 2) := by decide +kernel
theorem dX0_lowestBestInto_73 : decode cX0_lowestBestInto 73 = .ok (.iinc 6 1, 3) := by decide +kernel
theorem dX0_lowestBestInto_76 : decode cX0_lowestBestInto 76 = .ok (.goto (-50), 3) := by decide +kernel
theorem dX0_lowestBestInto_79 : decode cX0_lowestBestInto 79 = .ok (.iload_n 3, 1) := by decide +kernel
theorem dX0_lowestBestInto_80 : decode cX0_lowestBestInto 80 = .ok (.ireturn, 1) := by decide +kernel
theorem dX0_lowestBestAtLast_0 : decode cX0_lowestBestAtLast 0 = .ok (.iconst 0, 1) := by decide +kernel
theorem dX0_lowestBestAtLast_1 : decode cX0_lowestBestAtLast 1 = .ok (.istore_n 1, 1) := by decide +kernel
theorem dX0_lowestBestAtLast_2 : decode cX0_lowestBestAtLast 2 = .ok (.iconst 1, 1) := by decide +kernel
theorem dX0_lowestBestAtLast_3 : decode cX0_lowestBestAtLast 3 = .ok (.istore_n 2, 1) := by decide +kernel
theorem dX0_lowestBestAtLast_4 : decode cX0_lowestBestAtLast 4 = .ok (.iload_n 2, 1) := by decide +kernel
theorem dX0_lowestBestAtLast_5 : decode cX0_lowestBestAtLast 5 = .ok (.aload_n 0, 1) := by decide +kernel
theorem dX0_lowestBestAtLast_6 : decode cX0_lowestBestAtLast 6 = .ok (.getfield 7, 3) := by decide +kernel
theorem dX0_lowestBestAtLast_9 : decode cX0_lowestBestAtLast 9 = .ok (.if_icmp .ge 41, 3) := by decide +kernel
theorem dX0_lowestBestAtLast_12 : decode cX0_lowestBestAtLast 12 = .ok (.aload_n 0, 1) := by decide +kernel
theorem dX0_lowestBestAtLast_13 : decode cX0_lowestBestAtLast 13 = .ok (.getfield 38, 3) := by decide +kernel
theorem dX0_lowestBestAtLast_16 : decode cX0_lowestBestAtLast 16 = .ok (.aload_n 0, 1) := by decide +kernel
theorem dX0_lowestBestAtLast_17 : decode cX0_lowestBestAtLast 17 = .ok (.getfield 13, 3) := by decide +kernel
theorem dX0_lowestBestAtLast_20 : decode cX0_lowestBestAtLast 20 = .ok (.iconst 1, 1) := by decide +kernel
theorem dX0_lowestBestAtLast_21 : decode cX0_lowestBestAtLast 21 = .ok (.isub, 1) := by decide +kernel
theorem dX0_lowestBestAtLast_22 : decode cX0_lowestBestAtLast 22 = .ok (.aaload, 1) := by decide +kernel
theorem dX0_lowestBestAtLast_23 : decode cX0_lowestBestAtLast 23 = .ok (.iload_n 2, 1) := by decide +kernel
theorem dX0_lowestBestAtLast_24 : decode cX0_lowestBestAtLast 24 = .ok (.daload, 1) := by decide +kernel
theorem dX0_lowestBestAtLast_25 : decode cX0_lowestBestAtLast 25 = .ok (.aload_n 0, 1) := by decide +kernel
theorem dX0_lowestBestAtLast_26 : decode cX0_lowestBestAtLast 26 = .ok (.getfield 38, 3) := by decide +kernel
theorem dX0_lowestBestAtLast_29 : decode cX0_lowestBestAtLast 29 = .ok (.aload_n 0, 1) := by decide +kernel
theorem dX0_lowestBestAtLast_30 : decode cX0_lowestBestAtLast 30 = .ok (.getfield 13, 3) := by decide +kernel
theorem dX0_lowestBestAtLast_33 : decode cX0_lowestBestAtLast 33 = .ok (.iconst 1, 1) := by decide +kernel
theorem dX0_lowestBestAtLast_34 : decode cX0_lowestBestAtLast 34 = .ok (.isub, 1) := by decide +kernel
theorem dX0_lowestBestAtLast_35 : decode cX0_lowestBestAtLast 35 = .ok (.aaload, 1) := by decide +kernel
theorem dX0_lowestBestAtLast_36 : decode cX0_lowestBestAtLast 36 = .ok (.iload_n 1, 1) := by decide +kernel
theorem dX0_lowestBestAtLast_37 : decode cX0_lowestBestAtLast 37 = .ok (.daload, 1) := by decide +kernel
theorem dX0_lowestBestAtLast_38 : decode cX0_lowestBestAtLast 38 = .ok (.dcmp .l, 1) := by decide +kernel
theorem dX0_lowestBestAtLast_39 : decode cX0_lowestBestAtLast 39 = .ok (.ifCond .le 5, 3) := by decide +kernel
theorem dX0_lowestBestAtLast_42 : decode cX0_lowestBestAtLast 42 = .ok (.iload_n 2, 1) := by decide +kernel
theorem dX0_lowestBestAtLast_43 : decode cX0_lowestBestAtLast 43 = .ok (.istore_n 1, 1) := by decide +kernel
theorem dX0_lowestBestAtLast_44 : decode cX0_lowestBestAtLast 44 = .ok (.iinc 2 1, 3) := by decide +kernel
theorem dX0_lowestBestAtLast_47 : decode cX0_lowestBestAtLast 47 = .ok (.goto (-43), 3) := by decide +kernel
theorem dX0_lowestBestAtLast_50 : decode cX0_lowestBestAtLast 50 = .ok (.iload_n 1, 1) := by decide +kernel
theorem dX0_lowestBestAtLast_51 : decode cX0_lowestBestAtLast 51 = .ok (.ireturn, 1) := by decide +kernel
set_option maxRecDepth 20000 in
theorem ggX0_fillCounts_X0_weightShown : GoodIn wsX0_fillCounts wsX0_weightShown := goodIn_r _ [8, 9, 10, 17, 18, 19, 20, 21, 22, 23, 24, 25, 26, 27] (by decide +kernel) (by decide +kernel)
set_option maxRecDepth 20000 in
theorem gX0_fillCounts_X0_weightShown : GoodIn wsX0_fillCounts (wsV RX0 113 RX0 yX0_weightShown wsX0_weightShown) := goodIn_app (goodIn_of _ (by decide +kernel)) ggX0_fillCounts_X0_weightShown
set_option maxRecDepth 20000 in
theorem ggX0_fillCounts_X0_countInto : GoodIn wsX0_fillCounts wsX0_countInto := goodIn_r _ [14, 15, 2, 16, 3, 17, 18, 19, 20, 21, 22, 23, 24, 25, 26, 27] (by decide +kernel) (by decide +kernel)
set_option maxRecDepth 20000 in
theorem gX0_fillCounts_X0_countInto : GoodIn wsX0_fillCounts (wsV RX0 123 RX0 yX0_countInto wsX0_countInto) := goodIn_app (goodIn_of _ (by decide +kernel)) ggX0_fillCounts_X0_countInto
theorem dX0_fillCounts_0 : decode cX0_fillCounts 0 = .ok (.iconst 0, 1) := by decide +kernel
theorem dX0_fillCounts_1 : decode cX0_fillCounts 1 = .ok (.istore_n 1, 1) := by decide +kernel
theorem dX0_fillCounts_2 : decode cX0_fillCounts 2 = .ok (.iload_n 1, 1) := by decide +kernel
theorem dX0_fillCounts_3 : decode cX0_fillCounts 3 = .ok (.aload_n 0, 1) := by decide +kernel
theorem dX0_fillCounts_4 : decode cX0_fillCounts 4 = .ok (.getfield 13, 3) := by decide +kernel
theorem dX0_fillCounts_7 : decode cX0_fillCounts 7 = .ok (.if_icmp .ge 54, 3) := by decide +kernel
theorem dX0_fillCounts_10 : decode cX0_fillCounts 10 = .ok (.iconst 0, 1) := by decide +kernel
theorem dX0_fillCounts_11 : decode cX0_fillCounts 11 = .ok (.istore_n 2, 1) := by decide +kernel
theorem dX0_fillCounts_12 : decode cX0_fillCounts 12 = .ok (.iload_n 2, 1) := by decide +kernel
theorem dX0_fillCounts_13 : decode cX0_fillCounts 13 = .ok (.aload_n 0, 1) := by decide +kernel
theorem dX0_fillCounts_14 : decode cX0_fillCounts 14 = .ok (.getfield 7, 3) := by decide +kernel
theorem dX0_fillCounts_17 : decode cX0_fillCounts 17 = .ok (.if_icmp .ge 38, 3) := by decide +kernel
theorem dX0_fillCounts_20 : decode cX0_fillCounts 20 = .ok (.aload_n 0, 1) := by decide +kernel
theorem dX0_fillCounts_21 : decode cX0_fillCounts 21 = .ok (.getfield 48, 3) := by decide +kernel
theorem dX0_fillCounts_24 : decode cX0_fillCounts 24 = .ok (.iload_n 1, 1) := by decide +kernel
theorem dX0_fillCounts_25 : decode cX0_fillCounts 25 = .ok (.aaload, 1) := by decide +kernel
theorem dX0_fillCounts_26 : decode cX0_fillCounts 26 = .ok (.iload_n 2, 1) := by decide +kernel
theorem dX0_fillCounts_27 : decode cX0_fillCounts 27 = .ok (.aload_n 0, 1) := by decide +kernel
theorem dX0_fillCounts_28 : decode cX0_fillCounts 28 = .ok (.iload_n 1, 1) := by decide +kernel
theorem dX0_fillCounts_29 : decode cX0_fillCounts 29 = .ok (.iload_n 2, 1) := by decide +kernel
theorem dX0_fillCounts_30 : decode cX0_fillCounts 30 = .ok (.invokevirtual 113, 3) := by decide +kernel
theorem dX0_fillCounts_33 : decode cX0_fillCounts 33 = .ok (.dconst 0, 1) := by decide +kernel
theorem dX0_fillCounts_34 : decode cX0_fillCounts 34 = .ok (.dcmp .l, 1) := by decide +kernel
theorem dX0_fillCounts_35 : decode cX0_fillCounts 35 = .ok (.ifCond .le 12, 3) := by decide +kernel
theorem dX0_fillCounts_38 : decode cX0_fillCounts 38 = .ok (.aload_n 0, 1) := by decide +kernel
theorem dX0_fillCounts_39 : decode cX0_fillCounts 39 = .ok (.iload_n 1, 1) := by decide +kernel
theorem dX0_fillCounts_40 : decode cX0_fillCounts 40 = .ok (.iload_n 2, 1) := by decide +kernel
theorem dX0_fillCounts_41 : decode cX0_fillCounts 41 = .ok (.invokevirtual 123, 3) := by decide +kernel
theorem dX0_fillCounts_44 : decode cX0_fillCounts 44 = .ok (.goto 4, 3) := by decide +kernel
theorem dX0_fillCounts_47 : decode cX0_fillCounts 47 = .ok (.lconst 0, 1) := by decide +kernel
theorem dX0_fillCounts_48 : decode cX0_fillCounts 48 = .ok (.lastore, 1) := by decide +kernel
theorem dX0_fillCounts_49 : decode cX0_fillCounts 49 = .ok (.iinc 2 1, 3) := by decide +kernel
theorem dX0_fillCounts_52 : decode cX0_fillCounts 52 = .ok (.goto (-40), 3) := by decide +kernel
theorem dX0_fillCounts_55 : decode cX0_fillCounts 55 = .ok (.iinc 1 1, 3) := by decide +kernel
theorem dX0_fillCounts_58 : decode cX0_fillCounts 58 = .ok (.goto (-56), 3) := by decide +kernel
theorem dX0_fillCounts_61 : decode cX0_fillCounts 61 = .ok (.return_, 1) := by decide +kernel
theorem dX0_countInto_0 : decode cX0_countInto 0 = .ok (.iload_n 1, 1) := by decide +kernel
theorem dX0_countInto_1 : decode cX0_countInto 1 = .ok (.ifCond .ne 20, 3) := by decide +kernel
theorem dX0_countInto_4 : decode cX0_countInto 4 = .ok (.aload_n 0, 1) := by decide +kernel
theorem dX0_countInto_5 : decode cX0_countInto 5 = .ok (.getfield 20, 3) := by decide +kernel
theorem dX0_countInto_8 : decode cX0_countInto 8 = .ok (.iload_n 2, 1) := by decide +kernel
theorem dX0_countInto_9 : decode cX0_countInto 9 = .ok (.daload, 1) := by decide +kernel
theorem dX0_countInto_10 : decode cX0_countInto 10 = .ok (.dconst 0, 1) := by decide +kernel
theorem dX0_countInto_11 : decode cX0_countInto 11 = .ok (.dcmp .l, 1) := by decide +kernel
theorem dX0_countInto_12 : decode cX0_countInto 12 = .ok (.ifCond .le 7, 3) := by decide +kernel
theorem dX0_countInto_15 : decode cX0_countInto 15 = .ok (.lconst 1, 1) := by decide +kernel
theorem dX0_countInto_16 : decode cX0_countInto 16 = .ok (.goto 4, 3) := by decide +kernel
theorem dX0_countInto_19 : decode cX0_countInto 19 = .ok (.lconst 0, 1) := by decide +kernel
theorem dX0_countInto_20 : decode cX0_countInto 20 = .ok (.lreturn, 1) := by decide +kernel
theorem dX0_countInto_21 : decode cX0_countInto 21 = .ok (.lconst 0, 1) := by decide +kernel
theorem dX0_countInto_22 : decode cX0_countInto 22 = .ok (.lstore_n 3, 1) := by decide +kernel
theorem dX0_countInto_23 : decode cX0_countInto 23 = .ok (.iconst 0, 1) := by decide +kernel
theorem dX0_countInto_24 : decode cX0_countInto 24 = .ok (.istore 5, 2) := by decide +kernel
theorem dX0_countInto_26 : decode cX0_countInto 26 = .ok (.iload 5, 2) := by decide +kernel
theorem dX0_countInto_28 : decode cX0_countInto 28 = .ok (.aload_n 0, 1) := by decide +kernel
theorem dX0_countInto_29 : decode cX0_countInto 29 = .ok (.getfield 7, 3) := by decide +kernel
theorem dX0_countInto_32 : decode cX0_countInto 32 = .ok (.if_icmp .ge 37, 3) := by decide +kernel
theorem dX0_countInto_35 : decode cX0_countInto 35 = .ok (.aload_n 0, 1) := by decide +kernel
theorem dX0_countInto_36 : decode cX0_countInto 36 = .ok (.getfield 26, 3) := by decide +kernel
theorem dX0_countInto_39 : decode cX0_countInto 39 = .ok (.iload 5, 2) := by decide +kernel
theorem dX0_countInto_41 : decode cX0_countInto 41 = .ok (.aaload, 1) := by decide +kernel
theorem dX0_countInto_42 : decode cX0_countInto 42 = .ok (.iload_n 2, 1) := by decide +kernel
theorem dX0_countInto_43 : decode cX0_countInto 43 = .ok (.daload, 1) := by decide +kernel
theorem dX0_countInto_44 : decode cX0_countInto 44 = .ok (.dconst 0, 1) := by decide +kernel
theorem dX0_countInto_45 : decode cX0_countInto 45 = .ok (.dcmp .l, 1) := by decide +kernel
theorem dX0_countInto_46 : decode cX0_countInto 46 = .ok (.ifCond .le 17, 3) := by decide +kernel
theorem dX0_countInto_49 : decode cX0_countInto 49 = .ok (.lload_n 3, 1) := by decide +kernel
theorem dX0_countInto_50 : decode cX0_countInto 50 = .ok (.aload_n 0, 1) := by decide +kernel
theorem dX0_countInto_51 : decode cX0_countInto 51 = .ok (.getfield 48, 3) := by decide +kernel
theorem dX0_countInto_54 : decode cX0_countInto 54 = .ok (.iload_n 1, 1) := by decide +kernel
theorem dX0_countInto_55 : decode cX0_countInto 55 = .ok (.iconst 1, 1) := by decide +kernel
theorem dX0_countInto_56 : decode cX0_countInto 56 = .ok (.isub, 1) := by decide +kernel
theorem dX0_countInto_57 : decode cX0_countInto 57 = .ok (.aaload, 1) := by decide +kernel
theorem dX0_countInto_58 : decode cX0_countInto 58 = .ok (.iload 5, 2) := by decide +kernel
theorem dX0_countInto_60 : decode cX0_countInto 60 = .ok (.laload, 1) := by decide +kernel
theorem dX0_countInto_61 : decode cX0_countInto 61 = .ok (.ladd, 1) := by decide +kernel
theorem dX0_countInto_62 : decode cX0_countInto 62 = .ok (.lstore_n 3, 1) := by decide +kernel
theorem dX0_countInto_63 : decode cX0_countInto 63 = .ok (.iinc 5 1, 3) := by decide +kernel
theorem dX0_countInto_66 : decode cX0_countInto 66 = .ok (.goto (-40), 3) := by decide +kernel
theorem dX0_countInto_69 : decode cX0_countInto 69 = .ok (.lload_n 3, 1) := by decide +kernel
theorem dX0_countInto_70 : decode cX0_countInto 70 = .ok (.lreturn, 1) := by decide +kernel
