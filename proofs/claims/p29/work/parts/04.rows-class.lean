set_option maxRecDepth 20000 in
theorem ggX0_init_X5_init : GoodIn wsX0_init wsX5_init := goodIn_r _ [16, 17, 2, 3, 18, 19, 20, 21, 22, 23, 24, 32, 33] (by decide +kernel) (by decide +kernel)
set_option maxRecDepth 20000 in
theorem gX0_init_X5_init : GoodIn wsX0_init (wsX5_init) := ggX0_init_X5_init
set_option maxRecDepth 20000 in
theorem ggX0_init_X6_init : GoodIn wsX0_init wsX6_init := goodIn_r _ [27, 28, 2, 3, 29, 19, 20, 21, 22, 30, 31, 38, 39] (by decide +kernel) (by decide +kernel)
set_option maxRecDepth 20000 in
theorem gX0_init_X6_init : GoodIn wsX0_init (wsX6_init) := ggX0_init_X6_init
theorem dX0_init_0 : decode cX0_init 0 = .ok (.aload_n 0, 1) := by decide +kernel
theorem dX0_init_1 : decode cX0_init 1 = .ok (.invokespecial 3, 3) := by decide +kernel
theorem dX0_init_4 : decode cX0_init 4 = .ok (.aload_n 0, 1) := by decide +kernel
theorem dX0_init_5 : decode cX0_init 5 = .ok (.new 9, 3) := by decide +kernel
theorem dX0_init_8 : decode cX0_init 8 = .ok (.dup, 1) := by decide +kernel
theorem dX0_init_9 : decode cX0_init 9 = .ok (.bipush 24, 2) := by decide +kernel
theorem dX0_init_11 : decode cX0_init 11 = .ok (.invokespecial 11, 3) := by decide +kernel
theorem dX0_init_14 : decode cX0_init 14 = .ok (.putfield 14, 3) := by decide +kernel
theorem dX0_init_17 : decode cX0_init 17 = .ok (.aload_n 0, 1) := by decide +kernel
theorem dX0_init_18 : decode cX0_init 18 = .ok (.new 20, 3) := by decide +kernel
theorem dX0_init_21 : decode cX0_init 21 = .ok (.dup, 1) := by decide +kernel
theorem dX0_init_22 : decode cX0_init 22 = .ok (.bipush 24, 2) := by decide +kernel
theorem dX0_init_24 : decode cX0_init 24 = .ok (.iconst 0, 1) := by decide +kernel
theorem dX0_init_25 : decode cX0_init 25 = .ok (.invokespecial 22, 3) := by decide +kernel
theorem dX0_init_28 : decode cX0_init 28 = .ok (.putfield 25, 3) := by decide +kernel
theorem dX0_init_31 : decode cX0_init 31 = .ok (.aload_n 0, 1) := by decide +kernel
theorem dX0_init_32 : decode cX0_init 32 = .ok (.new 20, 3) := by decide +kernel
theorem dX0_init_35 : decode cX0_init 35 = .ok (.dup, 1) := by decide +kernel
theorem dX0_init_36 : decode cX0_init 36 = .ok (.bipush 24, 2) := by decide +kernel
theorem dX0_init_38 : decode cX0_init 38 = .ok (.iconst 0, 1) := by decide +kernel
theorem dX0_init_39 : decode cX0_init 39 = .ok (.invokespecial 22, 3) := by decide +kernel
theorem dX0_init_42 : decode cX0_init 42 = .ok (.putfield 29, 3) := by decide +kernel
theorem dX0_init_45 : decode cX0_init 45 = .ok (.aload_n 0, 1) := by decide +kernel
theorem dX0_init_46 : decode cX0_init 46 = .ok (.new 20, 3) := by decide +kernel
theorem dX0_init_49 : decode cX0_init 49 = .ok (.dup, 1) := by decide +kernel
theorem dX0_init_50 : decode cX0_init 50 = .ok (.bipush 24, 2) := by decide +kernel
theorem dX0_init_52 : decode cX0_init 52 = .ok (.iconst 0, 1) := by decide +kernel
theorem dX0_init_53 : decode cX0_init 53 = .ok (.invokespecial 22, 3) := by decide +kernel
theorem dX0_init_56 : decode cX0_init 56 = .ok (.putfield 32, 3) := by decide +kernel
theorem dX0_init_59 : decode cX0_init 59 = .ok (.return_, 1) := by decide +kernel
set_option maxRecDepth 20000 in
theorem ggX0_tellHandicap_X6_put : GoodIn wsX0_tellHandicap wsX6_put := goodIn_r _ [6, 7, 12, 13] (by decide +kernel) (by decide +kernel)
set_option maxRecDepth 20000 in
theorem gX0_tellHandicap_X6_put : GoodIn wsX0_tellHandicap (wsV RX0 35 RX6 yX6_put wsX6_put) := goodIn_app (goodIn_of _ (by decide +kernel)) ggX0_tellHandicap_X6_put
theorem dX0_tellHandicap_0 : decode cX0_tellHandicap 0 = .ok (.aload_n 0, 1) := by decide +kernel
theorem dX0_tellHandicap_1 : decode cX0_tellHandicap 1 = .ok (.getfield 25, 3) := by decide +kernel
theorem dX0_tellHandicap_4 : decode cX0_tellHandicap 4 = .ok (.iload_n 1, 1) := by decide +kernel
theorem dX0_tellHandicap_5 : decode cX0_tellHandicap 5 = .ok (.iload_n 2, 1) := by decide +kernel
theorem dX0_tellHandicap_6 : decode cX0_tellHandicap 6 = .ok (.invokevirtual 35, 3) := by decide +kernel
theorem dX0_tellHandicap_9 : decode cX0_tellHandicap 9 = .ok (.return_, 1) := by decide +kernel
set_option maxRecDepth 20000 in
theorem ggX0_holds_X5_indexOf : GoodIn wsX0_holds wsX5_indexOf := goodIn_r _ [6, 7, 8, 13, 14] (by decide +kernel) (by decide +kernel)
set_option maxRecDepth 20000 in
theorem gX0_holds_X5_indexOf : GoodIn wsX0_holds (wsV RX0 38 RX5 yX5_indexOf wsX5_indexOf) := goodIn_app (goodIn_of _ (by decide +kernel)) ggX0_holds_X5_indexOf
theorem dX0_holds_0 : decode cX0_holds 0 = .ok (.aload_n 0, 1) := by decide +kernel
theorem dX0_holds_1 : decode cX0_holds 1 = .ok (.getfield 14, 3) := by decide +kernel
theorem dX0_holds_4 : decode cX0_holds 4 = .ok (.iload_n 1, 1) := by decide +kernel
theorem dX0_holds_5 : decode cX0_holds 5 = .ok (.invokevirtual 38, 3) := by decide +kernel
theorem dX0_holds_8 : decode cX0_holds 8 = .ok (.iconst (-1), 1) := by decide +kernel
theorem dX0_holds_9 : decode cX0_holds 9 = .ok (.if_icmp .eq 7, 3) := by decide +kernel
theorem dX0_holds_12 : decode cX0_holds 12 = .ok (.iconst 1, 1) := by decide +kernel
theorem dX0_holds_13 : decode cX0_holds 13 = .ok (.goto 4, 3) := by decide +kernel
theorem dX0_holds_16 : decode cX0_holds 16 = .ok (.iconst 0, 1) := by decide +kernel
theorem dX0_holds_17 : decode cX0_holds 17 = .ok (.ireturn, 1) := by decide +kernel
set_option maxRecDepth 20000 in
theorem ggX0_join_X5_append : GoodIn wsX0_join wsX5_append := goodIn_r _ [6, 7, 8, 9, 10, 5, 11, 12, 21, 22] (by decide +kernel) (by decide +kernel)
set_option maxRecDepth 20000 in
theorem gX0_join_X5_append : GoodIn wsX0_join (wsV RX0 42 RX5 yX5_append wsX5_append) := goodIn_app (goodIn_of _ (by decide +kernel)) ggX0_join_X5_append
set_option maxRecDepth 20000 in
theorem ggX0_join_X5_indexOf : GoodIn wsX0_join wsX5_indexOf := goodIn_r _ [16, 7, 12, 21, 22] (by decide +kernel) (by decide +kernel)
set_option maxRecDepth 20000 in
theorem gX0_join_X5_indexOf : GoodIn wsX0_join (wsV RX0 38 RX5 yX5_indexOf wsX5_indexOf) := goodIn_app (goodIn_of _ (by decide +kernel)) ggX0_join_X5_indexOf
theorem dX0_join_0 : decode cX0_join 0 = .ok (.aload_n 0, 1) := by decide +kernel
theorem dX0_join_1 : decode cX0_join 1 = .ok (.getfield 14, 3) := by decide +kernel
theorem dX0_join_4 : decode cX0_join 4 = .ok (.iload_n 1, 1) := by decide +kernel
theorem dX0_join_5 : decode cX0_join 5 = .ok (.invokevirtual 42, 3) := by decide +kernel
theorem dX0_join_8 : decode cX0_join 8 = .ok (.aload_n 0, 1) := by decide +kernel
theorem dX0_join_9 : decode cX0_join 9 = .ok (.getfield 14, 3) := by decide +kernel
theorem dX0_join_12 : decode cX0_join 12 = .ok (.iload_n 1, 1) := by decide +kernel
theorem dX0_join_13 : decode cX0_join 13 = .ok (.invokevirtual 38, 3) := by decide +kernel
theorem dX0_join_16 : decode cX0_join 16 = .ok (.ireturn, 1) := by decide +kernel
set_option maxRecDepth 20000 in
theorem ggX0_beginning_X5_indexOf : GoodIn wsX0_beginning wsX5_indexOf := goodIn_r _ [6, 7, 8, 13, 14] (by decide +kernel) (by decide +kernel)
set_option maxRecDepth 20000 in
theorem gX0_beginning_X5_indexOf : GoodIn wsX0_beginning (wsV RX0 38 RX5 yX5_indexOf wsX5_indexOf) := goodIn_app (goodIn_of _ (by decide +kernel)) ggX0_beginning_X5_indexOf
theorem dX0_beginning_0 : decode cX0_beginning 0 = .ok (.sipush 15000, 3) := by decide +kernel
theorem dX0_beginning_3 : decode cX0_beginning 3 = .ok (.aload_n 0, 1) := by decide +kernel
theorem dX0_beginning_4 : decode cX0_beginning 4 = .ok (.getfield 14, 3) := by decide +kernel
theorem dX0_beginning_7 : decode cX0_beginning 7 = .ok (.iload_n 1, 1) := by decide +kernel
theorem dX0_beginning_8 : decode cX0_beginning 8 = .ok (.invokevirtual 38, 3) := by decide +kernel
theorem dX0_beginning_11 : decode cX0_beginning 11 = .ok (.imul, 1) := by decide +kernel
theorem dX0_beginning_12 : decode cX0_beginning 12 = .ok (.ireturn, 1) := by decide +kernel
set_option maxRecDepth 20000 in
theorem ggX0_tellFinish_X6_put : GoodIn wsX0_tellFinish wsX6_put := goodIn_r _ [6, 7, 36, 37] (by decide +kernel) (by decide +kernel)
set_option maxRecDepth 20000 in
theorem gX0_tellFinish_X6_put : GoodIn wsX0_tellFinish (wsV RX0 35 RX6 yX6_put wsX6_put) := goodIn_app (goodIn_of _ (by decide +kernel)) ggX0_tellFinish_X6_put
set_option maxRecDepth 20000 in
theorem ggX0_tellFinish_X0_whatCounts : GoodIn wsX0_tellFinish wsX0_whatCounts := goodIn_r _ [12, 1, 13, 14, 15, 16, 17, 5, 18, 7, 19, 20, 21, 22, 11, 23, 24, 25, 26, 27, 28, 29, 30, 31, 32, 33, 34, 35, 36, 37, 38, 39] (by decide +kernel) (by decide +kernel)
set_option maxRecDepth 20000 in
theorem gX0_tellFinish_X0_whatCounts : GoodIn wsX0_tellFinish (wsV RX0 45 RX0 yX0_whatCounts wsX0_whatCounts) := goodIn_app (goodIn_of _ (by decide +kernel)) ggX0_tellFinish_X0_whatCounts
theorem dX0_tellFinish_0 : decode cX0_tellFinish 0 = .ok (.aload_n 0, 1) := by decide +kernel
theorem dX0_tellFinish_1 : decode cX0_tellFinish 1 = .ok (.getfield 29, 3) := by decide +kernel
theorem dX0_tellFinish_4 : decode cX0_tellFinish 4 = .ok (.iload_n 1, 1) := by decide +kernel
theorem dX0_tellFinish_5 : decode cX0_tellFinish 5 = .ok (.iload_n 2, 1) := by decide +kernel
theorem dX0_tellFinish_6 : decode cX0_tellFinish 6 = .ok (.invokevirtual 35, 3) := by decide +kernel
theorem dX0_tellFinish_9 : decode cX0_tellFinish 9 = .ok (.aload_n 0, 1) := by decide +kernel
theorem dX0_tellFinish_10 : decode cX0_tellFinish 10 = .ok (.iload_n 1, 1) := by decide +kernel
theorem dX0_tellFinish_11 : decode cX0_tellFinish 11 = .ok (.invokevirtual 45, 3) := by decide +kernel
theorem dX0_tellFinish_14 : decode cX0_tellFinish 14 = .ok (.ireturn, 1) := by decide +kernel
set_option maxRecDepth 20000 in
theorem ggX0_penaltiesOf_X6_get : GoodIn wsX0_penaltiesOf wsX6_get := goodIn_r _ [6, 7, 8, 13, 14] (by decide +kernel) (by decide +kernel)
set_option maxRecDepth 20000 in
theorem gX0_penaltiesOf_X6_get : GoodIn wsX0_penaltiesOf (wsV RX0 48 RX6 yX6_get wsX6_get) := goodIn_app (goodIn_of _ (by decide +kernel)) ggX0_penaltiesOf_X6_get
theorem dX0_penaltiesOf_0 : decode cX0_penaltiesOf 0 = .ok (.aload_n 0, 1) := by decide +kernel
theorem dX0_penaltiesOf_1 : decode cX0_penaltiesOf 1 = .ok (.getfield 32, 3) := by decide +kernel
theorem dX0_penaltiesOf_4 : decode cX0_penaltiesOf 4 = .ok (.iload_n 1, 1) := by decide +kernel
theorem dX0_penaltiesOf_5 : decode cX0_penaltiesOf 5 = .ok (.invokevirtual 48, 3) := by decide +kernel
theorem dX0_penaltiesOf_8 : decode cX0_penaltiesOf 8 = .ok (.ireturn, 1) := by decide +kernel
set_option maxRecDepth 20000 in
theorem ggX0_addPenalty_X6_add : GoodIn wsX0_addPenalty wsX6_add := goodIn_r _ [6, 7, 8, 9, 5, 10, 11, 12, 13, 14, 15, 16, 22, 23] (by decide +kernel) (by decide +kernel)
set_option maxRecDepth 20000 in
theorem gX0_addPenalty_X6_add : GoodIn wsX0_addPenalty (wsV RX0 51 RX6 yX6_add wsX6_add) := goodIn_app (goodIn_of _ (by decide +kernel)) ggX0_addPenalty_X6_add
set_option maxRecDepth 20000 in
theorem ggX0_addPenalty_X6_get : GoodIn wsX0_addPenalty wsX6_get := goodIn_r _ [10, 11, 12, 22, 23] (by decide +kernel) (by decide +kernel)
set_option maxRecDepth 20000 in
theorem gX0_addPenalty_X6_get : GoodIn wsX0_addPenalty (wsV RX0 48 RX6 yX6_get wsX6_get) := goodIn_app (goodIn_of _ (by decide +kernel)) ggX0_addPenalty_X6_get
theorem dX0_addPenalty_0 : decode cX0_addPenalty 0 = .ok (.aload_n 0, 1) := by decide +kernel
theorem dX0_addPenalty_1 : decode cX0_addPenalty 1 = .ok (.getfield 32, 3) := by decide +kernel
theorem dX0_addPenalty_4 : decode cX0_addPenalty 4 = .ok (.iload_n 1, 1) := by decide +kernel
theorem dX0_addPenalty_5 : decode cX0_addPenalty 5 = .ok (.iload_n 2, 1) := by decide +kernel
theorem dX0_addPenalty_6 : decode cX0_addPenalty 6 = .ok (.invokevirtual 51, 3) := by decide +kernel
theorem dX0_addPenalty_9 : decode cX0_addPenalty 9 = .ok (.aload_n 0, 1) := by decide +kernel
theorem dX0_addPenalty_10 : decode cX0_addPenalty 10 = .ok (.getfield 32, 3) := by decide +kernel
theorem dX0_addPenalty_13 : decode cX0_addPenalty 13 = .ok (.iload_n 1, 1) := by decide +kernel
theorem dX0_addPenalty_14 : decode cX0_addPenalty 14 = .ok (.invokevirtual 48, 3) := by decide +kernel
theorem dX0_addPenalty_17 : decode cX0_addPenalty 17 = .ok (.ireturn, 1) := by decide +kernel
set_option maxRecDepth 20000 in
theorem ggX0_hasFinished_X6_get : GoodIn wsX0_hasFinished wsX6_get := goodIn_r _ [6, 7, 8, 13, 14] (by decide +kernel) (by decide +kernel)
set_option maxRecDepth 20000 in
theorem gX0_hasFinished_X6_get : GoodIn wsX0_hasFinished (wsV RX0 48 RX6 yX6_get wsX6_get) := goodIn_app (goodIn_of _ (by decide +kernel)) ggX0_hasFinished_X6_get
theorem dX0_hasFinished_0 : decode cX0_hasFinished 0 = .ok (.aload_n 0, 1) := by decide +kernel
theorem dX0_hasFinished_1 : decode cX0_hasFinished 1 = .ok (.getfield 29, 3) := by decide +kernel
theorem dX0_hasFinished_4 : decode cX0_hasFinished 4 = .ok (.iload_n 1, 1) := by decide +kernel
theorem dX0_hasFinished_5 : decode cX0_hasFinished 5 = .ok (.invokevirtual 48, 3) := by decide +kernel
theorem dX0_hasFinished_8 : decode cX0_hasFinished 8 = .ok (.ifCond .eq 7, 3) := by decide +kernel
theorem dX0_hasFinished_11 : decode cX0_hasFinished 11 = .ok (.iconst 1, 1) := by decide +kernel
theorem dX0_hasFinished_12 : decode cX0_hasFinished 12 = .ok (.goto 4, 3) := by decide +kernel
theorem dX0_hasFinished_15 : decode cX0_hasFinished 15 = .ok (.iconst 0, 1) := by decide +kernel
theorem dX0_hasFinished_16 : decode cX0_hasFinished 16 = .ok (.ireturn, 1) := by decide +kernel
set_option maxRecDepth 20000 in
theorem ggX0_whatCounts_X6_get : GoodIn wsX0_whatCounts wsX6_get := goodIn_r _ [8, 9, 10, 28, 29] (by decide +kernel) (by decide +kernel)
set_option maxRecDepth 20000 in
theorem gX0_whatCounts_X6_get : GoodIn wsX0_whatCounts (wsV RX0 48 RX6 yX6_get wsX6_get) := goodIn_app (goodIn_of _ (by decide +kernel)) ggX0_whatCounts_X6_get
set_option maxRecDepth 20000 in
theorem ggX0_whatCounts_X0_beginning : GoodIn wsX0_whatCounts wsX0_beginning := goodIn_r _ [15, 16, 17, 18, 19, 20, 21, 22, 23, 24, 25, 26, 27, 30, 31] (by decide +kernel) (by decide +kernel)
set_option maxRecDepth 20000 in
theorem gX0_whatCounts_X0_beginning : GoodIn wsX0_whatCounts (wsV RX0 54 RX0 yX0_beginning wsX0_beginning) := goodIn_app (goodIn_of _ (by decide +kernel)) ggX0_whatCounts_X0_beginning
theorem dX0_whatCounts_0 : decode cX0_whatCounts 0 = .ok (.aload_n 0, 1) := by decide +kernel
theorem dX0_whatCounts_1 : decode cX0_whatCounts 1 = .ok (.getfield 29, 3) := by decide +kernel
theorem dX0_whatCounts_4 : decode cX0_whatCounts 4 = .ok (.iload_n 1, 1) := by decide +kernel
theorem dX0_whatCounts_5 : decode cX0_whatCounts 5 = .ok (.invokevirtual 48, 3) := by decide +kernel
theorem dX0_whatCounts_8 : decode cX0_whatCounts 8 = .ok (.aload_n 0, 1) := by decide +kernel
theorem dX0_whatCounts_9 : decode cX0_whatCounts 9 = .ok (.iload_n 1, 1) := by decide +kernel
theorem dX0_whatCounts_10 : decode cX0_whatCounts 10 = .ok (.invokevirtual 54, 3) := by decide +kernel
theorem dX0_whatCounts_13 : decode cX0_whatCounts 13 = .ok (.isub, 1) := by decide +kernel
theorem dX0_whatCounts_14 : decode cX0_whatCounts 14 = .ok (.aload_n 0, 1) := by decide +kernel
theorem dX0_whatCounts_15 : decode cX0_whatCounts 15 = .ok (.getfield 25, 3) := by decide +kernel
theorem dX0_whatCounts_18 : decode cX0_whatCounts 18 = .ok (.iload_n 1, 1) := by decide +kernel
theorem dX0_whatCounts_19 : decode cX0_whatCounts 19 = .ok (.invokevirtual 48, 3) := by decide +kernel
theorem dX0_whatCounts_22 : decode cX0_whatCounts 22 = .ok (.isub, 1) := by decide +kernel
theorem dX0_whatCounts_23 : decode cX0_whatCounts 23 = .ok (.sipush 1000, 3) := by decide +kernel
theorem dX0_whatCounts_26 : decode cX0_whatCounts 26 = .ok (.aload_n 0, 1) := by decide +kernel
theorem dX0_whatCounts_27 : decode cX0_whatCounts 27 = .ok (.getfield 32, 3) := by decide +kernel
theorem dX0_whatCounts_30 : decode cX0_whatCounts 30 = .ok (.iload_n 1, 1) := by decide +kernel
theorem dX0_whatCounts_31 : decode cX0_whatCounts 31 = .ok (.invokevirtual 48, 3) := by decide +kernel
theorem dX0_whatCounts_34 : decode cX0_whatCounts 34 = .ok (.imul, 1) := by decide +kernel
theorem dX0_whatCounts_35 : decode cX0_whatCounts 35 = .ok (.iadd, 1) := by decide +kernel
theorem dX0_whatCounts_36 : decode cX0_whatCounts 36 = .ok (.ireturn, 1) := by decide +kernel
set_option maxRecDepth 20000 in
theorem ggX0_rankOf_X0_hasFinished : GoodIn wsX0_rankOf wsX0_hasFinished := goodIn_r _ [6, 7, 8, 9, 10, 11, 12, 13, 14, 44, 45, 46, 47, 48, 49] (by decide +kernel) (by decide +kernel)
set_option maxRecDepth 20000 in
theorem gX0_rankOf_X0_hasFinished : GoodIn wsX0_rankOf (wsV RX0 57 RX0 yX0_hasFinished wsX0_hasFinished) := goodIn_app (goodIn_of _ (by decide +kernel)) ggX0_rankOf_X0_hasFinished
set_option maxRecDepth 20000 in
theorem ggX0_rankOf_X5_size : GoodIn wsX0_rankOf wsX5_size := goodIn_r _ [19, 20, 50, 51] (by decide +kernel) (by decide +kernel)
set_option maxRecDepth 20000 in
theorem gX0_rankOf_X5_size : GoodIn wsX0_rankOf (wsV RX0 61 RX5 yX5_size wsX5_size) := goodIn_app (goodIn_of _ (by decide +kernel)) ggX0_rankOf_X5_size
set_option maxRecDepth 20000 in
theorem ggX0_rankOf_X5_at : GoodIn wsX0_rankOf wsX5_at := goodIn_r _ [24, 25, 26, 27, 28, 18, 29, 20, 50, 51] (by decide +kernel) (by decide +kernel)
set_option maxRecDepth 20000 in
theorem gX0_rankOf_X5_at : GoodIn wsX0_rankOf (wsV RX0 65 RX5 yX5_at wsX5_at) := goodIn_app (goodIn_of _ (by decide +kernel)) ggX0_rankOf_X5_at
set_option maxRecDepth 20000 in
theorem ggX0_rankOf_X0_whatCounts : GoodIn wsX0_rankOf wsX0_whatCounts := goodIn_r _ [33, 7, 34, 35, 8, 9, 10, 11, 12, 13, 14, 36, 37, 38, 5, 39, 1, 40, 41, 42, 18, 43, 20, 25, 44, 45, 46, 47, 48, 49, 50, 51] (by decide +kernel) (by decide +kernel)
set_option maxRecDepth 20000 in
theorem gX0_rankOf_X0_whatCounts : GoodIn wsX0_rankOf (wsV RX0 45 RX0 yX0_whatCounts wsX0_whatCounts) := goodIn_app (goodIn_of _ (by decide +kernel)) ggX0_rankOf_X0_whatCounts
theorem dX0_rankOf_0 : decode cX0_rankOf 0 = .ok (.aload_n 0, 1) := by decide +kernel
theorem dX0_rankOf_1 : decode cX0_rankOf 1 = .ok (.iload_n 1, 1) := by decide +kernel
theorem dX0_rankOf_2 : decode cX0_rankOf 2 = .ok (.invokevirtual 57, 3) := by decide +kernel
theorem dX0_rankOf_5 : decode cX0_rankOf 5 = .ok (.ifCond .ne 5, 3) := by decide +kernel
theorem dX0_rankOf_8 : decode cX0_rankOf 8 = .ok (.iconst (-1), 1) := by decide +kernel
theorem dX0_rankOf_9 : decode cX0_rankOf 9 = .ok (.ireturn, 1) := by decide +kernel
theorem dX0_rankOf_10 : decode cX0_rankOf 10 = .ok (.iconst 0, 1) := by decide +kernel
theorem dX0_rankOf_11 : decode cX0_rankOf 11 = .ok (.istore_n 2, 1) := by decide +kernel
theorem dX0_rankOf_12 : decode cX0_rankOf 12 = .ok (.iconst 0, 1) := by decide +kernel
theorem dX0_rankOf_13 : decode cX0_rankOf 13 = .ok (.istore_n 3, 1) := by decide +kernel
theorem dX0_rankOf_14 : decode cX0_rankOf 14 = .ok (.iload_n 3, 1) := by decide +kernel
theorem dX0_rankOf_15 : decode cX0_rankOf 15 = .ok (.aload_n 0, 1) := by decide +kernel
theorem dX0_rankOf_16 : decode cX0_rankOf 16 = .ok (.getfield 14, 3) := by decide +kernel
theorem dX0_rankOf_19 : decode cX0_rankOf 19 = .ok (.invokevirtual 61, 3) := by decide +kernel
theorem dX0_rankOf_22 : decode cX0_rankOf 22 = .ok (.if_icmp .ge 45, 3) := by decide +kernel
theorem dX0_rankOf_25 : decode cX0_rankOf 25 = .ok (.aload_n 0, 1) := by decide +kernel
theorem dX0_rankOf_26 : decode cX0_rankOf 26 = .ok (.getfield 14, 3) := by decide +kernel
theorem dX0_rankOf_29 : decode cX0_rankOf 29 = .ok (.iload_n 3, 1) := by decide +kernel
theorem dX0_rankOf_30 : decode cX0_rankOf 30 = .ok (.invokevirtual 65, 3) := by decide +kernel
theorem dX0_rankOf_33 : decode cX0_rankOf 33 = .ok (.istore 4, 2) := by decide +kernel
theorem dX0_rankOf_35 : decode cX0_rankOf 35 = .ok (.aload_n 0, 1) := by decide +kernel
theorem dX0_rankOf_36 : decode cX0_rankOf 36 = .ok (.iload 4, 2) := by decide +kernel
theorem dX0_rankOf_38 : decode cX0_rankOf 38 = .ok (.invokevirtual 57, 3) := by decide +kernel
theorem dX0_rankOf_41 : decode cX0_rankOf 41 = .ok (.ifCond .eq 20, 3) := by decide +kernel
theorem dX0_rankOf_44 : decode cX0_rankOf 44 = .ok (.aload_n 0, 1) := by decide +kernel
theorem dX0_rankOf_45 : decode cX0_rankOf 45 = .ok (.iload 4, 2) := by decide +kernel
theorem dX0_rankOf_47 : decode cX0_rankOf 47 = .ok (.invokevirtual 45, 3) := by decide +kernel
theorem dX0_rankOf_50 : decode cX0_rankOf 50 = .ok (.aload_n 0, 1) := by decide +kernel
theorem dX0_rankOf_51 : decode cX0_rankOf 51 = .ok (.iload_n 1, 1) := by decide +kernel
theorem dX0_rankOf_52 : decode cX0_rankOf 52 = .ok (.invokevirtual 45, 3) := by decide +kernel
theorem dX0_rankOf_55 : decode cX0_rankOf 55 = .ok (.if_icmp .ge 6, 3) := by decide +kernel
theorem dX0_rankOf_58 : decode cX0_rankOf 58 = .ok (.iinc 2 1, 3) := by decide +kernel
theorem dX0_rankOf_61 : decode cX0_rankOf 61 = .ok (.iinc 3 1, 3) := by decide +kernel
theorem dX0_rankOf_64 : decode cX0_rankOf 64 = .ok (.goto (-50), 3) := by decide +kernel
theorem dX0_rankOf_67 : decode cX0_rankOf 67 = .ok (.iload_n 2, 1) := by decide +kernel
theorem dX0_rankOf_68 : decode cX0_rankOf 68 = .ok (.ireturn, 1) := by decide +kernel
set_option maxRecDepth 20000 in
theorem ggX0_overtakenBy_X0_hasFinished : GoodIn wsX0_overtakenBy wsX0_hasFinished := goodIn_r _ [7, 2, 8, 9, 10, 11, 12, 13, 14, 30, 31, 32, 33, 34, 35] (by decide +kernel) (by decide +kernel)
set_option maxRecDepth 20000 in
theorem gX0_overtakenBy_X0_hasFinished : GoodIn wsX0_overtakenBy (wsV RX0 57 RX0 yX0_hasFinished wsX0_hasFinished) := goodIn_app (goodIn_of _ (by decide +kernel)) ggX0_overtakenBy_X0_hasFinished
set_option maxRecDepth 20000 in
theorem ggX0_overtakenBy_X5_indexOf : GoodIn wsX0_overtakenBy wsX5_indexOf := goodIn_r _ [19, 20, 21, 36, 37] (by decide +kernel) (by decide +kernel)
set_option maxRecDepth 20000 in
theorem gX0_overtakenBy_X5_indexOf : GoodIn wsX0_overtakenBy (wsV RX0 38 RX5 yX5_indexOf wsX5_indexOf) := goodIn_app (goodIn_of _ (by decide +kernel)) ggX0_overtakenBy_X5_indexOf
set_option maxRecDepth 20000 in
theorem ggX0_overtakenBy_X5_at : GoodIn wsX0_overtakenBy wsX5_at := goodIn_r _ [25, 21, 26, 27, 28, 18, 29, 20, 36, 37] (by decide +kernel) (by decide +kernel)
set_option maxRecDepth 20000 in
theorem gX0_overtakenBy_X5_at : GoodIn wsX0_overtakenBy (wsV RX0 65 RX5 yX5_at wsX5_at) := goodIn_app (goodIn_of _ (by decide +kernel)) ggX0_overtakenBy_X5_at
set_option maxRecDepth 20000 in
theorem ggX0_overtakenBy_X6_get : GoodIn wsX0_overtakenBy wsX6_get := goodIn_r _ [12, 13, 14, 34, 35] (by decide +kernel) (by decide +kernel)
set_option maxRecDepth 20000 in
theorem gX0_overtakenBy_X6_get : GoodIn wsX0_overtakenBy (wsV RX0 48 RX6 yX6_get wsX6_get) := goodIn_app (goodIn_of _ (by decide +kernel)) ggX0_overtakenBy_X6_get
theorem dX0_overtakenBy_0 : decode cX0_overtakenBy 0 = .ok (.aload_n 0, 1) := by decide +kernel
theorem dX0_overtakenBy_1 : decode cX0_overtakenBy 1 = .ok (.iload_n 1, 1) := by decide +kernel
theorem dX0_overtakenBy_2 : decode cX0_overtakenBy 2 = .ok (.invokevirtual 57, 3) := by decide +kernel
theorem dX0_overtakenBy_5 : decode cX0_overtakenBy 5 = .ok (.ifCond .ne 5, 3) := by decide +kernel
theorem dX0_overtakenBy_8 : decode cX0_overtakenBy 8 = .ok (.iconst 0, 1) := by decide +kernel
theorem dX0_overtakenBy_9 : decode cX0_overtakenBy 9 = .ok (.ireturn, 1) := by decide +kernel
theorem dX0_overtakenBy_10 : decode cX0_overtakenBy 10 = .ok (.iconst 0, 1) := by decide +kernel
theorem dX0_overtakenBy_11 : decode cX0_overtakenBy 11 = .ok (.istore_n 2, 1) := by decide +kernel
theorem dX0_overtakenBy_12 : decode cX0_overtakenBy 12 = .ok (.aload_n 0, 1) := by decide +kernel
theorem dX0_overtakenBy_13 : decode cX0_overtakenBy 13 = .ok (.getfield 14, 3) := by decide +kernel
theorem dX0_overtakenBy_16 : decode cX0_overtakenBy 16 = .ok (.iload_n 1, 1) := by decide +kernel
theorem dX0_overtakenBy_17 : decode cX0_overtakenBy 17 = .ok (.invokevirtual 38, 3) := by decide +kernel
theorem dX0_overtakenBy_20 : decode cX0_overtakenBy 20 = .ok (.istore_n 3, 1) := by decide +kernel
theorem dX0_overtakenBy_21 : decode cX0_overtakenBy 21 = .ok (.iconst 0, 1) := by decide +kernel
theorem dX0_overtakenBy_22 : decode cX0_overtakenBy 22 = .ok (.istore 4, 2) := by decide +kernel
theorem dX0_overtakenBy_24 : decode cX0_overtakenBy 24 = .ok (.iload 4, 2) := by decide +kernel
theorem dX0_overtakenBy_26 : decode cX0_overtakenBy 26 = .ok (.iload_n 3, 1) := by decide +kernel
theorem dX0_overtakenBy_27 : decode cX0_overtakenBy 27 = .ok (.if_icmp .ge 39, 3) := by decide +kernel
theorem dX0_overtakenBy_30 : decode cX0_overtakenBy 30 = .ok (.aload_n 0, 1) := by decide +kernel
theorem dX0_overtakenBy_31 : decode cX0_overtakenBy 31 = .ok (.getfield 29, 3) := by decide +kernel
theorem dX0_overtakenBy_34 : decode cX0_overtakenBy 34 = .ok (.aload_n 0, 1) := by decide +kernel
theorem dX0_overtakenBy_35 : decode cX0_overtakenBy 35 = .ok (.getfield 14, 3) := by decide +kernel
theorem dX0_overtakenBy_38 : decode cX0_overtakenBy 38 = .ok (.iload 4, 2) := by decide +kernel
theorem dX0_overtakenBy_40 : decode cX0_overtakenBy 40 = .ok (.invokevirtual 65, 3) := by decide +kernel
theorem dX0_overtakenBy_43 : decode cX0_overtakenBy 43 = .ok (.invokevirtual 48, 3) := by decide +kernel
theorem dX0_overtakenBy_46 : decode cX0_overtakenBy 46 = .ok (.aload_n 0, 1) := by decide +kernel
theorem dX0_overtakenBy_47 : decode cX0_overtakenBy 47 = .ok (.getfield 29, 3) := by decide +kernel
theorem dX0_overtakenBy_50 : decode cX0_overtakenBy 50 = .ok (.iload_n 1, 1) := by decide +kernel
theorem dX0_overtakenBy_51 : decode cX0_overtakenBy 51 = .ok (.invokevirtual 48, 3) := by decide +kernel
theorem dX0_overtakenBy_54 : decode cX0_overtakenBy 54 = .ok (.if_icmp .le 6, 3) := by decide +kernel
theorem dX0_overtakenBy_57 : decode cX0_overtakenBy 57 = .ok (.iinc 2 1, 3) := by decide +kernel
theorem dX0_overtakenBy_60 : decode cX0_overtakenBy 60 = .ok (.iinc 4 1, 3) := by decide +kernel
theorem dX0_overtakenBy_63 : decode cX0_overtakenBy 63 = .ok (.goto (-39), 3) := by decide +kernel
theorem dX0_overtakenBy_66 : decode cX0_overtakenBy 66 = .ok (.iload_n 2, 1) := by decide +kernel
theorem dX0_overtakenBy_67 : decode cX0_overtakenBy 67 = .ok (.ireturn, 1) := by decide +kernel
set_option maxRecDepth 20000 in
theorem ggX1_init_X5_init : GoodIn wsX1_init wsX5_init := goodIn_r _ [13, 14, 2, 3, 15, 16, 17, 18, 19, 20, 21, 22, 23] (by decide +kernel) (by decide +kernel)
set_option maxRecDepth 20000 in
theorem gX1_init_X5_init : GoodIn wsX1_init (wsX5_init) := ggX1_init_X5_init
theorem dX1_init_0 : decode cX1_init 0 = .ok (.aload_n 0, 1) := by decide +kernel
theorem dX1_init_1 : decode cX1_init 1 = .ok (.invokespecial 3, 3) := by decide +kernel
theorem dX1_init_4 : decode cX1_init 4 = .ok (.aload_n 0, 1) := by decide +kernel
theorem dX1_init_5 : decode cX1_init 5 = .ok (.new 9, 3) := by decide +kernel
theorem dX1_init_8 : decode cX1_init 8 = .ok (.dup, 1) := by decide +kernel
theorem dX1_init_9 : decode cX1_init 9 = .ok (.sipush 512, 3) := by decide +kernel
theorem dX1_init_12 : decode cX1_init 12 = .ok (.invokespecial 11, 3) := by decide +kernel
theorem dX1_init_15 : decode cX1_init 15 = .ok (.putfield 14, 3) := by decide +kernel
theorem dX1_init_18 : decode cX1_init 18 = .ok (.aload_n 0, 1) := by decide +kernel
theorem dX1_init_19 : decode cX1_init 19 = .ok (.new 9, 3) := by decide +kernel
theorem dX1_init_22 : decode cX1_init 22 = .ok (.dup, 1) := by decide +kernel
theorem dX1_init_23 : decode cX1_init 23 = .ok (.sipush 512, 3) := by decide +kernel
theorem dX1_init_26 : decode cX1_init 26 = .ok (.invokespecial 11, 3) := by decide +kernel
theorem dX1_init_29 : decode cX1_init 29 = .ok (.putfield 20, 3) := by decide +kernel
theorem dX1_init_32 : decode cX1_init 32 = .ok (.aload_n 0, 1) := by decide +kernel
theorem dX1_init_33 : decode cX1_init 33 = .ok (.new 9, 3) := by decide +kernel
theorem dX1_init_36 : decode cX1_init 36 = .ok (.dup, 1) := by decide +kernel
theorem dX1_init_37 : decode cX1_init 37 = .ok (.sipush 512, 3) := by decide +kernel
theorem dX1_init_40 : decode cX1_init 40 = .ok (.invokespecial 11, 3) := by decide +kernel
theorem dX1_init_43 : decode cX1_init 43 = .ok (.putfield 23, 3) := by decide +kernel
theorem dX1_init_46 : decode cX1_init 46 = .ok (.aload_n 0, 1) := by decide +kernel
theorem dX1_init_47 : decode cX1_init 47 = .ok (.new 9, 3) := by decide +kernel
theorem dX1_init_50 : decode cX1_init 50 = .ok (.dup, 1) := by decide +kernel
theorem dX1_init_51 : decode cX1_init 51 = .ok (.bipush 24, 2) := by decide +kernel
theorem dX1_init_53 : decode cX1_init 53 = .ok (.invokespecial 11, 3) := by decide +kernel
theorem dX1_init_56 : decode cX1_init 56 = .ok (.putfield 26, 3) := by decide +kernel
theorem dX1_init_59 : decode cX1_init 59 = .ok (.return_, 1) := by decide +kernel
set_option maxRecDepth 20000 in
theorem ggX1_note_X5_append : GoodIn wsX1_note wsX5_append := goodIn_r _ [8, 9, 10, 11, 12, 7, 13, 14, 19, 20] (by decide +kernel) (by decide +kernel)
set_option maxRecDepth 20000 in
theorem gX1_note_X5_append : GoodIn wsX1_note (wsV RX1 29 RX5 yX5_append wsX5_append) := goodIn_app (goodIn_of _ (by decide +kernel)) ggX1_note_X5_append
theorem dX1_note_0 : decode cX1_note 0 = .ok (.aload_n 0, 1) := by decide +kernel
theorem dX1_note_1 : decode cX1_note 1 = .ok (.getfield 14, 3) := by decide +kernel
theorem dX1_note_4 : decode cX1_note 4 = .ok (.iload_n 1, 1) := by decide +kernel
theorem dX1_note_5 : decode cX1_note 5 = .ok (.invokevirtual 29, 3) := by decide +kernel
theorem dX1_note_8 : decode cX1_note 8 = .ok (.aload_n 0, 1) := by decide +kernel
theorem dX1_note_9 : decode cX1_note 9 = .ok (.getfield 20, 3) := by decide +kernel
theorem dX1_note_12 : decode cX1_note 12 = .ok (.iload_n 2, 1) := by decide +kernel
theorem dX1_note_13 : decode cX1_note 13 = .ok (.invokevirtual 29, 3) := by decide +kernel
theorem dX1_note_16 : decode cX1_note 16 = .ok (.aload_n 0, 1) := by decide +kernel
theorem dX1_note_17 : decode cX1_note 17 = .ok (.getfield 23, 3) := by decide +kernel
theorem dX1_note_20 : decode cX1_note 20 = .ok (.iload_n 3, 1) := by decide +kernel
theorem dX1_note_21 : decode cX1_note 21 = .ok (.invokevirtual 29, 3) := by decide +kernel
theorem dX1_note_24 : decode cX1_note 24 = .ok (.return_, 1) := by decide +kernel
set_option maxRecDepth 20000 in
theorem ggX1_placeOf_X5_clear : GoodIn wsX1_placeOf wsX5_clear := goodIn_r _ [9, 10, 57, 58] (by decide +kernel) (by decide +kernel)
set_option maxRecDepth 20000 in
theorem gX1_placeOf_X5_clear : GoodIn wsX1_placeOf (wsV RX1 32 RX5 yX5_clear wsX5_clear) := goodIn_app (goodIn_of _ (by decide +kernel)) ggX1_placeOf_X5_clear
set_option maxRecDepth 20000 in
theorem ggX1_placeOf_X5_size : GoodIn wsX1_placeOf wsX5_size := goodIn_r _ [14, 10, 57, 58] (by decide +kernel) (by decide +kernel)
set_option maxRecDepth 20000 in
theorem gX1_placeOf_X5_size : GoodIn wsX1_placeOf (wsV RX1 35 RX5 yX5_size wsX5_size) := goodIn_app (goodIn_of _ (by decide +kernel)) ggX1_placeOf_X5_size
set_option maxRecDepth 20000 in
theorem ggX1_placeOf_X5_at : GoodIn wsX1_placeOf wsX5_at := goodIn_r _ [18, 19, 20, 21, 22, 8, 23, 10, 57, 58] (by decide +kernel) (by decide +kernel)
set_option maxRecDepth 20000 in
theorem gX1_placeOf_X5_at : GoodIn wsX1_placeOf (wsV RX1 39 RX5 yX5_at wsX5_at) := goodIn_app (goodIn_of _ (by decide +kernel)) ggX1_placeOf_X5_at
set_option maxRecDepth 20000 in
theorem ggX1_placeOf_X1_happen : GoodIn wsX1_placeOf wsX1_happen := goodIn_r _ [27, 28, 29, 30, 31, 32, 33, 34, 8, 35, 10, 19, 36, 37, 38, 39, 40, 41, 42, 43, 44, 45, 46, 47, 20, 21, 22, 23, 11, 12, 13, 14, 48, 49, 50, 51, 52, 57, 58] (by decide +kernel) (by decide +kernel)
set_option maxRecDepth 20000 in
theorem gX1_placeOf_X1_happen : GoodIn wsX1_placeOf (va_wsS RX1 43 yX1_happen wsX1_happen) := goodIn_app (goodIn_of _ (by decide +kernel)) ggX1_placeOf_X1_happen
set_option maxRecDepth 20000 in
theorem ggX1_placeOf_X5_indexOf : GoodIn wsX1_placeOf wsX5_indexOf := goodIn_r _ [35, 10, 19, 57, 58] (by decide +kernel) (by decide +kernel)
set_option maxRecDepth 20000 in
theorem gX1_placeOf_X5_indexOf : GoodIn wsX1_placeOf (wsV RX1 47 RX5 yX5_indexOf wsX5_indexOf) := goodIn_app (goodIn_of _ (by decide +kernel)) ggX1_placeOf_X5_indexOf
theorem dX1_placeOf_0 : decode cX1_placeOf 0 = .ok (.aload_n 0, 1) := by decide +kernel
theorem dX1_placeOf_1 : decode cX1_placeOf 1 = .ok (.getfield 26, 3) := by decide +kernel
theorem dX1_placeOf_4 : decode cX1_placeOf 4 = .ok (.invokevirtual 32, 3) := by decide +kernel
theorem dX1_placeOf_7 : decode cX1_placeOf 7 = .ok (.iconst 0, 1) := by decide +kernel
theorem dX1_placeOf_8 : decode cX1_placeOf 8 = .ok (.istore_n 2, 1) := by decide +kernel
theorem dX1_placeOf_9 : decode cX1_placeOf 9 = .ok (.iload_n 2, 1) := by decide +kernel
theorem dX1_placeOf_10 : decode cX1_placeOf 10 = .ok (.aload_n 0, 1) := by decide +kernel
theorem dX1_placeOf_11 : decode cX1_placeOf 11 = .ok (.getfield 14, 3) := by decide +kernel
theorem dX1_placeOf_14 : decode cX1_placeOf 14 = .ok (.invokevirtual 35, 3) := by decide +kernel
theorem dX1_placeOf_17 : decode cX1_placeOf 17 = .ok (.if_icmp .ge 40, 3) := by decide +kernel
theorem dX1_placeOf_20 : decode cX1_placeOf 20 = .ok (.aload_n 0, 1) := by decide +kernel
theorem dX1_placeOf_21 : decode cX1_placeOf 21 = .ok (.getfield 26, 3) := by decide +kernel
theorem dX1_placeOf_24 : decode cX1_placeOf 24 = .ok (.aload_n 0, 1) := by decide +kernel
theorem dX1_placeOf_25 : decode cX1_placeOf 25 = .ok (.getfield 14, 3) := by decide +kernel
theorem dX1_placeOf_28 : decode cX1_placeOf 28 = .ok (.iload_n 2, 1) := by decide +kernel
theorem dX1_placeOf_29 : decode cX1_placeOf 29 = .ok (.invokevirtual 39, 3) := by decide +kernel
theorem dX1_placeOf_32 : decode cX1_placeOf 32 = .ok (.aload_n 0, 1) := by decide +kernel
theorem dX1_placeOf_33 : decode cX1_placeOf 33 = .ok (.getfield 20, 3) := by decide +kernel
theorem dX1_placeOf_36 : decode cX1_placeOf 36 = .ok (.iload_n 2, 1) := by decide +kernel
theorem dX1_placeOf_37 : decode cX1_placeOf 37 = .ok (.invokevirtual 39, 3) := by decide +kernel
theorem dX1_placeOf_40 : decode cX1_placeOf 40 = .ok (.aload_n 0, 1) := by decide +kernel
theorem dX1_placeOf_41 : decode cX1_placeOf 41 = .ok (.getfield 23, 3) := by decide +kernel
theorem dX1_placeOf_44 : decode cX1_placeOf 44 = .ok (.iload_n 2, 1) := by decide +kernel
theorem dX1_placeOf_45 : decode cX1_placeOf 45 = .ok (.invokevirtual 39, 3) := by decide +kernel
theorem dX1_placeOf_48 : decode cX1_placeOf 48 = .ok (.invokestatic 43, 3) := by decide +kernel
theorem dX1_placeOf_51 : decode cX1_placeOf 51 = .ok (.iinc 2 1, 3) := by decide +kernel
theorem dX1_placeOf_54 : decode cX1_placeOf 54 = .ok (.goto (-45), 3) := by decide +kernel
theorem dX1_placeOf_57 : decode cX1_placeOf 57 = .ok (.aload_n 0, 1) := by decide +kernel
theorem dX1_placeOf_58 : decode cX1_placeOf 58 = .ok (.getfield 26, 3) := by decide +kernel
theorem dX1_placeOf_61 : decode cX1_placeOf 61 = .ok (.iload_n 1, 1) := by decide +kernel
theorem dX1_placeOf_62 : decode cX1_placeOf 62 = .ok (.invokevirtual 47, 3) := by decide +kernel
theorem dX1_placeOf_65 : decode cX1_placeOf 65 = .ok (.ireturn, 1) := by decide +kernel
set_option maxRecDepth 20000 in
theorem ggX1_happen_X5_indexOf : GoodIn wsX1_happen wsX5_indexOf := goodIn_r _ [9, 10, 11, 37, 38] (by decide +kernel) (by decide +kernel)
set_option maxRecDepth 20000 in
theorem gX1_happen_X5_indexOf : GoodIn wsX1_happen (wsV RX1 47 RX5 yX5_indexOf wsX5_indexOf) := goodIn_app (goodIn_of _ (by decide +kernel)) ggX1_happen_X5_indexOf
set_option maxRecDepth 20000 in
theorem ggX1_happen_X5_append : GoodIn wsX1_happen wsX5_append := goodIn_r _ [15, 10, 16, 17, 18, 8, 19, 11, 37, 38] (by decide +kernel) (by decide +kernel)
set_option maxRecDepth 20000 in
theorem gX1_happen_X5_append : GoodIn wsX1_happen (wsV RX1 29 RX5 yX5_append wsX5_append) := goodIn_app (goodIn_of _ (by decide +kernel)) ggX1_happen_X5_append
set_option maxRecDepth 20000 in
theorem ggX1_happen_X5_removeAt : GoodIn wsX1_happen wsX5_removeAt := goodIn_r _ [23, 10, 11, 24, 25, 26, 8, 27, 37, 38] (by decide +kernel) (by decide +kernel)
set_option maxRecDepth 20000 in
theorem gX1_happen_X5_removeAt : GoodIn wsX1_happen (wsV RX1 50 RX5 yX5_removeAt wsX5_removeAt) := goodIn_app (goodIn_of _ (by decide +kernel)) ggX1_happen_X5_removeAt
set_option maxRecDepth 20000 in
theorem ggX1_happen_X5_size : GoodIn wsX1_happen wsX5_size := goodIn_r _ [31, 10, 37, 38] (by decide +kernel) (by decide +kernel)
set_option maxRecDepth 20000 in
theorem gX1_happen_X5_size : GoodIn wsX1_happen (wsV RX1 35 RX5 yX5_size wsX5_size) := goodIn_app (goodIn_of _ (by decide +kernel)) ggX1_happen_X5_size
set_option maxRecDepth 20000 in
theorem ggX1_happen_X5_insert : GoodIn wsX1_happen wsX5_insert := goodIn_r _ [19, 10, 11, 37, 38] (by decide +kernel) (by decide +kernel)
set_option maxRecDepth 20000 in
theorem gX1_happen_X5_insert : GoodIn wsX1_happen (wsV RX1 59 RX5 yX5_insert wsX5_insert) := goodIn_app (goodIn_of _ (by decide +kernel)) ggX1_happen_X5_insert
set_option maxRecDepth 20000 in
theorem ggX1_happen_X5_exchange : GoodIn wsX1_happen wsX5_exchange := goodIn_r _ [36, 11, 24, 25, 26, 8, 27, 10, 37, 38] (by decide +kernel) (by decide +kernel)
set_option maxRecDepth 20000 in
theorem gX1_happen_X5_exchange : GoodIn wsX1_happen (wsV RX1 63 RX5 yX5_exchange wsX5_exchange) := goodIn_app (goodIn_of _ (by decide +kernel)) ggX1_happen_X5_exchange
theorem dX1_happen_0 : decode cX1_happen 0 = .ok (.aload_n 0, 1) := by decide +kernel
theorem dX1_happen_1 : decode cX1_happen 1 = .ok (.iload_n 2, 1) := by decide +kernel
theorem dX1_happen_2 : decode cX1_happen 2 = .ok (.invokevirtual 47, 3) := by decide +kernel
theorem dX1_happen_5 : decode cX1_happen 5 = .ok (.istore 4, 2) := by decide +kernel
theorem dX1_happen_7 : decode cX1_happen 7 = .ok (.iload_n 1, 1) := by decide +kernel
theorem dX1_happen_8 : decode cX1_happen 8 = .ok (.tableswitch 88 0 3 #[32, 40, 49, 74], 32) := by decide +kernel
theorem dX1_happen_40 : decode cX1_happen 40 = .ok (.aload_n 0, 1) := by decide +kernel
theorem dX1_happen_41 : decode cX1_happen 41 = .ok (.iload_n 2, 1) := by decide +kernel
theorem dX1_happen_42 : decode cX1_happen 42 = .ok (.invokevirtual 29, 3) := by decide +kernel
theorem dX1_happen_45 : decode cX1_happen 45 = .ok (.goto 51, 3) := by decide +kernel
theorem dX1_happen_48 : decode cX1_happen 48 = .ok (.aload_n 0, 1) := by decide +kernel
theorem dX1_happen_49 : decode cX1_happen 49 = .ok (.iload 4, 2) := by decide +kernel
theorem dX1_happen_51 : decode cX1_happen 51 = .ok (.invokevirtual 50, 3) := by decide +kernel
theorem dX1_happen_54 : decode cX1_happen 54 = .ok (.goto 42, 3) := by decide +kernel
theorem dX1_happen_57 : decode cX1_happen 57 = .ok (.aload_n 0, 1) := by decide +kernel
theorem dX1_happen_58 : decode cX1_happen 58 = .ok (.iload 4, 2) := by decide +kernel
theorem dX1_happen_60 : decode cX1_happen 60 = .ok (.invokevirtual 50, 3) := by decide +kernel
theorem dX1_happen_63 : decode cX1_happen 63 = .ok (.aload_n 0, 1) := by decide +kernel
theorem dX1_happen_64 : decode cX1_happen 64 = .ok (.iload 4, 2) := by decide +kernel
theorem dX1_happen_66 : decode cX1_happen 66 = .ok (.iload_n 3, 1) := by decide +kernel
theorem dX1_happen_67 : decode cX1_happen 67 = .ok (.iadd, 1) := by decide +kernel
theorem dX1_happen_68 : decode cX1_happen 68 = .ok (.aload_n 0, 1) := by decide +kernel
theorem dX1_happen_69 : decode cX1_happen 69 = .ok (.invokevirtual 35, 3) := by decide +kernel
theorem dX1_happen_72 : decode cX1_happen 72 = .ok (.invokestatic 53, 3) := by decide +kernel
theorem dX1_happen_75 : decode cX1_happen 75 = .ok (.iload_n 2, 1) := by decide +kernel
theorem dX1_happen_76 : decode cX1_happen 76 = .ok (.invokevirtual 59, 3) := by decide +kernel
theorem dX1_happen_79 : decode cX1_happen 79 = .ok (.goto 17, 3) := by decide +kernel
theorem dX1_happen_82 : decode cX1_happen 82 = .ok (.aload_n 0, 1) := by decide +kernel
theorem dX1_happen_83 : decode cX1_happen 83 = .ok (.iload 4, 2) := by decide +kernel
theorem dX1_happen_85 : decode cX1_happen 85 = .ok (.aload_n 0, 1) := by decide +kernel
theorem dX1_happen_86 : decode cX1_happen 86 = .ok (.iload_n 3, 1) := by decide +kernel
theorem dX1_happen_87 : decode cX1_happen 87 = .ok (.invokevirtual 47, 3) := by decide +kernel
theorem dX1_happen_90 : decode cX1_happen 90 = .ok (.invokevirtual 63, 3) := by decide +kernel
theorem dX1_happen_93 : decode cX1_happen 93 = .ok (.goto 3, 3) := by decide +kernel
theorem dX1_happen_96 : decode cX1_happen 96 = .ok (.return_, 1) := by decide +kernel
set_option maxRecDepth 20000 in
theorem ggX2_init_X5_init : GoodIn wsX2_init wsX5_init := goodIn_r _ [21, 22, 2, 3, 23, 24, 25, 26, 27, 28, 29, 37, 38] (by decide +kernel) (by decide +kernel)
set_option maxRecDepth 20000 in
theorem gX2_init_X5_init : GoodIn wsX2_init (wsX5_init) := ggX2_init_X5_init
set_option maxRecDepth 20000 in
theorem ggX2_init_X6_init : GoodIn wsX2_init wsX6_init := goodIn_r _ [32, 33, 2, 3, 34, 24, 25, 26, 27, 35, 36, 47, 48] (by decide +kernel) (by decide +kernel)
set_option maxRecDepth 20000 in
theorem gX2_init_X6_init : GoodIn wsX2_init (wsX6_init) := ggX2_init_X6_init
theorem dX2_init_0 : decode cX2_init 0 = .ok (.aload_n 0, 1) := by decide +kernel
theorem dX2_init_1 : decode cX2_init 1 = .ok (.invokespecial 3, 3) := by decide +kernel
theorem dX2_init_4 : decode cX2_init 4 = .ok (.aload_n 0, 1) := by decide +kernel
theorem dX2_init_5 : decode cX2_init 5 = .ok (.new 9, 3) := by decide +kernel
theorem dX2_init_8 : decode cX2_init 8 = .ok (.dup, 1) := by decide +kernel
theorem dX2_init_9 : decode cX2_init 9 = .ok (.bipush 24, 2) := by decide +kernel
theorem dX2_init_11 : decode cX2_init 11 = .ok (.invokespecial 11, 3) := by decide +kernel
theorem dX2_init_14 : decode cX2_init 14 = .ok (.putfield 14, 3) := by decide +kernel
theorem dX2_init_17 : decode cX2_init 17 = .ok (.aload_n 0, 1) := by decide +kernel
theorem dX2_init_18 : decode cX2_init 18 = .ok (.new 20, 3) := by decide +kernel
theorem dX2_init_21 : decode cX2_init 21 = .ok (.dup, 1) := by decide +kernel
theorem dX2_init_22 : decode cX2_init 22 = .ok (.bipush 24, 2) := by decide +kernel
theorem dX2_init_24 : decode cX2_init 24 = .ok (.iconst (-1), 1) := by decide +kernel
theorem dX2_init_25 : decode cX2_init 25 = .ok (.invokespecial 22, 3) := by decide +kernel
theorem dX2_init_28 : decode cX2_init 28 = .ok (.putfield 25, 3) := by decide +kernel
theorem dX2_init_31 : decode cX2_init 31 = .ok (.aload_n 0, 1) := by decide +kernel
theorem dX2_init_32 : decode cX2_init 32 = .ok (.new 20, 3) := by decide +kernel
theorem dX2_init_35 : decode cX2_init 35 = .ok (.dup, 1) := by decide +kernel
theorem dX2_init_36 : decode cX2_init 36 = .ok (.bipush 24, 2) := by decide +kernel
theorem dX2_init_38 : decode cX2_init 38 = .ok (.iconst (-1), 1) := by decide +kernel
theorem dX2_init_39 : decode cX2_init 39 = .ok (.invokespecial 22, 3) := by decide +kernel
theorem dX2_init_42 : decode cX2_init 42 = .ok (.putfield 29, 3) := by decide +kernel
theorem dX2_init_45 : decode cX2_init 45 = .ok (.aload_n 0, 1) := by decide +kernel
theorem dX2_init_46 : decode cX2_init 46 = .ok (.new 20, 3) := by decide +kernel
theorem dX2_init_49 : decode cX2_init 49 = .ok (.dup, 1) := by decide +kernel
theorem dX2_init_50 : decode cX2_init 50 = .ok (.bipush 24, 2) := by decide +kernel
theorem dX2_init_52 : decode cX2_init 52 = .ok (.ldc 32, 2) := by decide +kernel
theorem dX2_init_54 : decode cX2_init 54 = .ok (.invokespecial 22, 3) := by decide +kernel
theorem dX2_init_57 : decode cX2_init 57 = .ok (.putfield 33, 3) := by decide +kernel
theorem dX2_init_60 : decode cX2_init 60 = .ok (.aload_n 0, 1) := by decide +kernel
theorem dX2_init_61 : decode cX2_init 61 = .ok (.new 9, 3) := by decide +kernel
theorem dX2_init_64 : decode cX2_init 64 = .ok (.dup, 1) := by decide +kernel
theorem dX2_init_65 : decode cX2_init 65 = .ok (.bipush 6, 2) := by decide +kernel
theorem dX2_init_67 : decode cX2_init 67 = .ok (.invokespecial 11, 3) := by decide +kernel
theorem dX2_init_70 : decode cX2_init 70 = .ok (.putfield 36, 3) := by decide +kernel
theorem dX2_init_73 : decode cX2_init 73 = .ok (.aload_n 0, 1) := by decide +kernel
theorem dX2_init_74 : decode cX2_init 74 = .ok (.new 9, 3) := by decide +kernel
theorem dX2_init_77 : decode cX2_init 77 = .ok (.dup, 1) := by decide +kernel
theorem dX2_init_78 : decode cX2_init 78 = .ok (.bipush 24, 2) := by decide +kernel
theorem dX2_init_80 : decode cX2_init 80 = .ok (.invokespecial 11, 3) := by decide +kernel
theorem dX2_init_83 : decode cX2_init 83 = .ok (.putfield 39, 3) := by decide +kernel
theorem dX2_init_86 : decode cX2_init 86 = .ok (.aload_n 0, 1) := by decide +kernel
theorem dX2_init_87 : decode cX2_init 87 = .ok (.iconst 0, 1) := by decide +kernel
theorem dX2_init_88 : decode cX2_init 88 = .ok (.putfield 42, 3) := by decide +kernel
theorem dX2_init_91 : decode cX2_init 91 = .ok (.aload_n 0, 1) := by decide +kernel
theorem dX2_init_92 : decode cX2_init 92 = .ok (.iconst 0, 1) := by decide +kernel
theorem dX2_init_93 : decode cX2_init 93 = .ok (.putfield 46, 3) := by decide +kernel
theorem dX2_init_96 : decode cX2_init 96 = .ok (.return_, 1) := by decide +kernel
theorem dX2_roundNow_0 : decode cX2_roundNow 0 = .ok (.aload_n 0, 1) := by decide +kernel
theorem dX2_roundNow_1 : decode cX2_roundNow 1 = .ok (.getfield 46, 3) := by decide +kernel
theorem dX2_roundNow_4 : decode cX2_roundNow 4 = .ok (.ireturn, 1) := by decide +kernel
set_option maxRecDepth 20000 in
theorem ggX2_startAnew_X5_clear : GoodIn wsX2_startAnew wsX5_clear := goodIn_r _ [8, 9, 33, 34] (by decide +kernel) (by decide +kernel)
set_option maxRecDepth 20000 in
theorem gX2_startAnew_X5_clear : GoodIn wsX2_startAnew (wsV RX2 49 RX5 yX5_clear wsX5_clear) := goodIn_app (goodIn_of _ (by decide +kernel)) ggX2_startAnew_X5_clear
set_option maxRecDepth 20000 in
theorem ggX2_startAnew_X2_clearRound : GoodIn wsX2_startAnew wsX2_clearRound := goodIn_r _ [14, 15, 16, 17, 18, 19, 20, 21, 22, 23, 24, 25, 26, 27, 28, 29, 30, 31, 32, 35, 36] (by decide +kernel) (by decide +kernel)
set_option maxRecDepth 20000 in
theorem gX2_startAnew_X2_clearRound : GoodIn wsX2_startAnew (wsV RX2 52 RX2 yX2_clearRound wsX2_clearRound) := goodIn_app (goodIn_of _ (by decide +kernel)) ggX2_startAnew_X2_clearRound
theorem dX2_startAnew_0 : decode cX2_startAnew 0 = .ok (.aload_n 0, 1) := by decide +kernel
theorem dX2_startAnew_1 : decode cX2_startAnew 1 = .ok (.getfield 46, 3) := by decide +kernel
theorem dX2_startAnew_4 : decode cX2_startAnew 4 = .ok (.istore_n 1, 1) := by decide +kernel
theorem dX2_startAnew_5 : decode cX2_startAnew 5 = .ok (.aload_n 0, 1) := by decide +kernel
theorem dX2_startAnew_6 : decode cX2_startAnew 6 = .ok (.getfield 14, 3) := by decide +kernel
theorem dX2_startAnew_9 : decode cX2_startAnew 9 = .ok (.invokevirtual 49, 3) := by decide +kernel
theorem dX2_startAnew_12 : decode cX2_startAnew 12 = .ok (.aload_n 0, 1) := by decide +kernel
theorem dX2_startAnew_13 : decode cX2_startAnew 13 = .ok (.invokevirtual 52, 3) := by decide +kernel
theorem dX2_startAnew_16 : decode cX2_startAnew 16 = .ok (.aload_n 0, 1) := by decide +kernel
theorem dX2_startAnew_17 : decode cX2_startAnew 17 = .ok (.iconst 0, 1) := by decide +kernel
theorem dX2_startAnew_18 : decode cX2_startAnew 18 = .ok (.putfield 42, 3) := by decide +kernel
theorem dX2_startAnew_21 : decode cX2_startAnew 21 = .ok (.aload_n 0, 1) := by decide +kernel
theorem dX2_startAnew_22 : decode cX2_startAnew 22 = .ok (.iconst 0, 1) := by decide +kernel
theorem dX2_startAnew_23 : decode cX2_startAnew 23 = .ok (.putfield 46, 3) := by decide +kernel
theorem dX2_startAnew_26 : decode cX2_startAnew 26 = .ok (.iload_n 1, 1) := by decide +kernel
theorem dX2_startAnew_27 : decode cX2_startAnew 27 = .ok (.ireturn, 1) := by decide +kernel
set_option maxRecDepth 20000 in
theorem ggX2_clearRound_X6_wipe : GoodIn wsX2_clearRound wsX6_wipe := goodIn_r _ [8, 9, 10, 19, 20] (by decide +kernel) (by decide +kernel)
set_option maxRecDepth 20000 in
theorem gX2_clearRound_X6_wipe : GoodIn wsX2_clearRound (wsV RX2 55 RX6 yX6_wipe wsX6_wipe) := goodIn_app (goodIn_of _ (by decide +kernel)) ggX2_clearRound_X6_wipe
theorem dX2_clearRound_0 : decode cX2_clearRound 0 = .ok (.aload_n 0, 1) := by decide +kernel
theorem dX2_clearRound_1 : decode cX2_clearRound 1 = .ok (.getfield 25, 3) := by decide +kernel
theorem dX2_clearRound_4 : decode cX2_clearRound 4 = .ok (.invokevirtual 55, 3) := by decide +kernel
theorem dX2_clearRound_7 : decode cX2_clearRound 7 = .ok (.aload_n 0, 1) := by decide +kernel
theorem dX2_clearRound_8 : decode cX2_clearRound 8 = .ok (.getfield 29, 3) := by decide +kernel
theorem dX2_clearRound_11 : decode cX2_clearRound 11 = .ok (.invokevirtual 55, 3) := by decide +kernel
theorem dX2_clearRound_14 : decode cX2_clearRound 14 = .ok (.aload_n 0, 1) := by decide +kernel
theorem dX2_clearRound_15 : decode cX2_clearRound 15 = .ok (.getfield 33, 3) := by decide +kernel
theorem dX2_clearRound_18 : decode cX2_clearRound 18 = .ok (.invokevirtual 55, 3) := by decide +kernel
theorem dX2_clearRound_21 : decode cX2_clearRound 21 = .ok (.return_, 1) := by decide +kernel
set_option maxRecDepth 20000 in
theorem ggX2_entered_X5_size : GoodIn wsX2_entered wsX5_size := goodIn_r _ [6, 7, 16, 17] (by decide +kernel) (by decide +kernel)
set_option maxRecDepth 20000 in
theorem gX2_entered_X5_size : GoodIn wsX2_entered (wsV RX2 58 RX5 yX5_size wsX5_size) := goodIn_app (goodIn_of _ (by decide +kernel)) ggX2_entered_X5_size
theorem dX2_entered_0 : decode cX2_entered 0 = .ok (.aload_n 0, 1) := by decide +kernel
theorem dX2_entered_1 : decode cX2_entered 1 = .ok (.getfield 14, 3) := by decide +kernel
theorem dX2_entered_4 : decode cX2_entered 4 = .ok (.invokevirtual 58, 3) := by decide +kernel
theorem dX2_entered_7 : decode cX2_entered 7 = .ok (.ireturn, 1) := by decide +kernel
set_option maxRecDepth 20000 in
theorem ggX2_isEntered_X5_indexOf : GoodIn wsX2_isEntered wsX5_indexOf := goodIn_r _ [6, 7, 8, 17, 18] (by decide +kernel) (by decide +kernel)
set_option maxRecDepth 20000 in
theorem gX2_isEntered_X5_indexOf : GoodIn wsX2_isEntered (wsV RX2 62 RX5 yX5_indexOf wsX5_indexOf) := goodIn_app (goodIn_of _ (by decide +kernel)) ggX2_isEntered_X5_indexOf
theorem dX2_isEntered_0 : decode cX2_isEntered 0 = .ok (.aload_n 0, 1) := by decide +kernel
theorem dX2_isEntered_1 : decode cX2_isEntered 1 = .ok (.getfield 14, 3) := by decide +kernel
theorem dX2_isEntered_4 : decode cX2_isEntered 4 = .ok (.iload_n 1, 1) := by decide +kernel
theorem dX2_isEntered_5 : decode cX2_isEntered 5 = .ok (.invokevirtual 62, 3) := by decide +kernel
theorem dX2_isEntered_8 : decode cX2_isEntered 8 = .ok (.iconst (-1), 1) := by decide +kernel
theorem dX2_isEntered_9 : decode cX2_isEntered 9 = .ok (.if_icmp .eq 7, 3) := by decide +kernel
theorem dX2_isEntered_12 : decode cX2_isEntered 12 = .ok (.iconst 1, 1) := by decide +kernel
theorem dX2_isEntered_13 : decode cX2_isEntered 13 = .ok (.goto 4, 3) := by decide +kernel
theorem dX2_isEntered_16 : decode cX2_isEntered 16 = .ok (.iconst 0, 1) := by decide +kernel
theorem dX2_isEntered_17 : decode cX2_isEntered 17 = .ok (.ireturn, 1) := by decide +kernel
set_option maxRecDepth 20000 in
theorem ggX2_addSeed_X5_append : GoodIn wsX2_addSeed wsX5_append := goodIn_r _ [6, 7, 8, 9, 10, 5, 11, 12, 25, 26] (by decide +kernel) (by decide +kernel)
set_option maxRecDepth 20000 in
theorem gX2_addSeed_X5_append : GoodIn wsX2_addSeed (wsV RX2 66 RX5 yX5_append wsX5_append) := goodIn_app (goodIn_of _ (by decide +kernel)) ggX2_addSeed_X5_append
set_option maxRecDepth 20000 in
theorem ggX2_addSeed_X5_size : GoodIn wsX2_addSeed wsX5_size := goodIn_r _ [16, 7, 25, 26] (by decide +kernel) (by decide +kernel)
set_option maxRecDepth 20000 in
theorem gX2_addSeed_X5_size : GoodIn wsX2_addSeed (wsV RX2 58 RX5 yX5_size wsX5_size) := goodIn_app (goodIn_of _ (by decide +kernel)) ggX2_addSeed_X5_size
theorem dX2_addSeed_0 : decode cX2_addSeed 0 = .ok (.aload_n 0, 1) := by decide +kernel
theorem dX2_addSeed_1 : decode cX2_addSeed 1 = .ok (.getfield 14, 3) := by decide +kernel
theorem dX2_addSeed_4 : decode cX2_addSeed 4 = .ok (.iload_n 1, 1) := by decide +kernel
theorem dX2_addSeed_5 : decode cX2_addSeed 5 = .ok (.invokevirtual 66, 3) := by decide +kernel
theorem dX2_addSeed_8 : decode cX2_addSeed 8 = .ok (.aload_n 0, 1) := by decide +kernel
theorem dX2_addSeed_9 : decode cX2_addSeed 9 = .ok (.getfield 14, 3) := by decide +kernel
theorem dX2_addSeed_12 : decode cX2_addSeed 12 = .ok (.invokevirtual 58, 3) := by decide +kernel
theorem dX2_addSeed_15 : decode cX2_addSeed 15 = .ok (.ireturn, 1) := by decide +kernel
theorem dX2_heatsOfRound_0 : decode cX2_heatsOfRound 0 = .ok (.aload_n 0, 1) := by decide +kernel
theorem dX2_heatsOfRound_1 : decode cX2_heatsOfRound 1 = .ok (.getfield 46, 3) := by decide +kernel
theorem dX2_heatsOfRound_4 : decode cX2_heatsOfRound 4 = .ok (.iconst 1, 1) := by decide +kernel
theorem dX2_heatsOfRound_5 : decode cX2_heatsOfRound 5 = .ok (.if_icmp .eq 11, 3) := by decide +kernel
theorem dX2_heatsOfRound_8 : decode cX2_heatsOfRound 8 = .ok (.aload_n 0, 1) := by decide +kernel
theorem dX2_heatsOfRound_9 : decode cX2_heatsOfRound 9 = .ok (.getfield 46, 3) := by decide +kernel
theorem dX2_heatsOfRound_12 : decode cX2_heatsOfRound 12 = .ok (.iconst 2, 1) := by decide +kernel
theorem dX2_heatsOfRound_13 : decode cX2_heatsOfRound 13 = .ok (.if_icmp .ne 10, 3) := by decide +kernel
theorem dX2_heatsOfRound_16 : decode cX2_heatsOfRound 16 = .ok (.aload_n 0, 1) := by decide +kernel
theorem dX2_heatsOfRound_17 : decode cX2_heatsOfRound 17 = .ok (.getfield 42, 3) := by decide +kernel
theorem dX2_heatsOfRound_20 : decode cX2_heatsOfRound 20 = .ok (.goto 4, 3) := by decide +kernel
theorem dX2_heatsOfRound_23 : decode cX2_heatsOfRound 23 = .ok (.iconst 0, 1) := by decide +kernel
theorem dX2_heatsOfRound_24 : decode cX2_heatsOfRound 24 = .ok (.ireturn, 1) := by decide +kernel
set_option maxRecDepth 20000 in
theorem ggX2_races_X2_heatsOfRound : GoodIn wsX2_races wsX2_heatsOfRound := goodIn_r _ [6, 7, 8, 16, 17, 18, 19, 20, 21, 22, 23] (by decide +kernel) (by decide +kernel)
set_option maxRecDepth 20000 in
theorem gX2_races_X2_heatsOfRound : GoodIn wsX2_races (wsV RX2 72 RX2 yX2_heatsOfRound wsX2_heatsOfRound) := goodIn_app (goodIn_of _ (by decide +kernel)) ggX2_races_X2_heatsOfRound
set_option maxRecDepth 20000 in
theorem ggX2_races_X6_get : GoodIn wsX2_races wsX6_get := goodIn_r _ [13, 14, 15, 24, 25] (by decide +kernel) (by decide +kernel)
set_option maxRecDepth 20000 in
theorem gX2_races_X6_get : GoodIn wsX2_races (wsV RX2 69 RX6 yX6_get wsX6_get) := goodIn_app (goodIn_of _ (by decide +kernel)) ggX2_races_X6_get
theorem dX2_races_0 : decode cX2_races 0 = .ok (.aload_n 0, 1) := by decide +kernel
theorem dX2_races_1 : decode cX2_races 1 = .ok (.invokevirtual 72, 3) := by decide +kernel
theorem dX2_races_4 : decode cX2_races 4 = .ok (.ifCond .le 19, 3) := by decide +kernel
theorem dX2_races_7 : decode cX2_races 7 = .ok (.aload_n 0, 1) := by decide +kernel
theorem dX2_races_8 : decode cX2_races 8 = .ok (.getfield 25, 3) := by decide +kernel
theorem dX2_races_11 : decode cX2_races 11 = .ok (.iload_n 1, 1) := by decide +kernel
theorem dX2_races_12 : decode cX2_races 12 = .ok (.invokevirtual 69, 3) := by decide +kernel
theorem dX2_races_15 : decode cX2_races 15 = .ok (.iconst (-1), 1) := by decide +kernel
theorem dX2_races_16 : decode cX2_races 16 = .ok (.if_icmp .eq 7, 3) := by decide +kernel
theorem dX2_races_19 : decode cX2_races 19 = .ok (.iconst 1, 1) := by decide +kernel
theorem dX2_races_20 : decode cX2_races 20 = .ok (.goto 4, 3) := by decide +kernel
theorem dX2_races_23 : decode cX2_races 23 = .ok (.iconst 0, 1) := by decide +kernel
theorem dX2_races_24 : decode cX2_races 24 = .ok (.ireturn, 1) := by decide +kernel
set_option maxRecDepth 20000 in
theorem ggX2_drawHeats_X5_size : GoodIn wsX2_drawHeats wsX5_size := goodIn_r _ [8, 9, 40, 41] (by decide +kernel) (by decide +kernel)
set_option maxRecDepth 20000 in
theorem gX2_drawHeats_X5_size : GoodIn wsX2_drawHeats (wsV RX2 58 RX5 yX5_size wsX5_size) := goodIn_app (goodIn_of _ (by decide +kernel)) ggX2_drawHeats_X5_size
set_option maxRecDepth 20000 in
theorem ggX2_drawHeats_X5_at : GoodIn wsX2_drawHeats wsX5_at := goodIn_r _ [13, 14, 15, 16, 17, 7, 18, 9, 40, 41] (by decide +kernel) (by decide +kernel)
set_option maxRecDepth 20000 in
theorem gX2_drawHeats_X5_at : GoodIn wsX2_drawHeats (wsV RX2 75 RX5 yX5_at wsX5_at) := goodIn_app (goodIn_of _ (by decide +kernel)) ggX2_drawHeats_X5_at
set_option maxRecDepth 20000 in
theorem ggX2_drawHeats_X2_putInLane : GoodIn wsX2_drawHeats wsX2_putInLane := goodIn_r _ [23, 24, 25, 26, 27, 28, 29, 30, 31, 32, 33, 34, 35, 36, 37, 38, 39, 42, 43] (by decide +kernel) (by decide +kernel)
set_option maxRecDepth 20000 in
theorem gX2_drawHeats_X2_putInLane : GoodIn wsX2_drawHeats (wsV RX2 78 RX2 yX2_putInLane wsX2_putInLane) := goodIn_app (goodIn_of _ (by decide +kernel)) ggX2_drawHeats_X2_putInLane
theorem dX2_drawHeats_0 : decode cX2_drawHeats 0 = .ok (.aload_n 0, 1) := by decide +kernel
theorem dX2_drawHeats_1 : decode cX2_drawHeats 1 = .ok (.aload_n 0, 1) := by decide +kernel
theorem dX2_drawHeats_2 : decode cX2_drawHeats 2 = .ok (.getfield 14, 3) := by decide +kernel
theorem dX2_drawHeats_5 : decode cX2_drawHeats 5 = .ok (.invokevirtual 58, 3) := by decide +kernel
theorem dX2_drawHeats_8 : decode cX2_drawHeats 8 = .ok (.bipush 6, 2) := by decide +kernel
theorem dX2_drawHeats_10 : decode cX2_drawHeats 10 = .ok (.iadd, 1) := by decide +kernel
theorem dX2_drawHeats_11 : decode cX2_drawHeats 11 = .ok (.iconst 1, 1) := by decide +kernel
theorem dX2_drawHeats_12 : decode cX2_drawHeats 12 = .ok (.isub, 1) := by decide +kernel
theorem dX2_drawHeats_13 : decode cX2_drawHeats 13 = .ok (.bipush 6, 2) := by decide +kernel
theorem dX2_drawHeats_15 : decode cX2_drawHeats 15 = .ok (.idiv, 1) := by decide +kernel
theorem dX2_drawHeats_16 : decode cX2_drawHeats 16 = .ok (.putfield 42, 3) := by decide +kernel
theorem dX2_drawHeats_19 : decode cX2_drawHeats 19 = .ok (.aload_n 0, 1) := by decide +kernel
theorem dX2_drawHeats_20 : decode cX2_drawHeats 20 = .ok (.getfield 42, 3) := by decide +kernel
theorem dX2_drawHeats_23 : decode cX2_drawHeats 23 = .ok (.ifCond .gt 5, 3) := by decide +kernel
theorem dX2_drawHeats_26 : decode cX2_drawHeats 26 = .ok (.iconst 0, 1) := by decide +kernel
theorem dX2_drawHeats_27 : decode cX2_drawHeats 27 = .ok (.ireturn, 1) := by decide +kernel
theorem dX2_drawHeats_28 : decode cX2_drawHeats 28 = .ok (.iconst 0, 1) := by decide +kernel
theorem dX2_drawHeats_29 : decode cX2_drawHeats 29 = .ok (.istore_n 1, 1) := by decide +kernel
theorem dX2_drawHeats_30 : decode cX2_drawHeats 30 = .ok (.iload_n 1, 1) := by decide +kernel
theorem dX2_drawHeats_31 : decode cX2_drawHeats 31 = .ok (.aload_n 0, 1) := by decide +kernel
theorem dX2_drawHeats_32 : decode cX2_drawHeats 32 = .ok (.getfield 14, 3) := by decide +kernel
theorem dX2_drawHeats_35 : decode cX2_drawHeats 35 = .ok (.invokevirtual 58, 3) := by decide +kernel
theorem dX2_drawHeats_38 : decode cX2_drawHeats 38 = .ok (.if_icmp .ge 54, 3) := by decide +kernel
theorem dX2_drawHeats_41 : decode cX2_drawHeats 41 = .ok (.iload_n 1, 1) := by decide +kernel
theorem dX2_drawHeats_42 : decode cX2_drawHeats 42 = .ok (.aload_n 0, 1) := by decide +kernel
theorem dX2_drawHeats_43 : decode cX2_drawHeats 43 = .ok (.getfield 42, 3) := by decide +kernel
theorem dX2_drawHeats_46 : decode cX2_drawHeats 46 = .ok (.idiv, 1) := by decide +kernel
theorem dX2_drawHeats_47 : decode cX2_drawHeats 47 = .ok (.istore_n 2, 1) := by decide +kernel
theorem dX2_drawHeats_48 : decode cX2_drawHeats 48 = .ok (.iload_n 1, 1) := by decide +kernel
theorem dX2_drawHeats_49 : decode cX2_drawHeats 49 = .ok (.aload_n 0, 1) := by decide +kernel
theorem dX2_drawHeats_50 : decode cX2_drawHeats 50 = .ok (.getfield 42, 3) := by decide +kernel
theorem dX2_drawHeats_53 : decode cX2_drawHeats 53 = .ok (.irem, 1) := by decide +kernel
theorem dX2_drawHeats_54 : decode cX2_drawHeats 54 = .ok (.istore_n 3, 1) := by decide +kernel
theorem dX2_drawHeats_55 : decode cX2_drawHeats 55 = .ok (.aload_n 0, 1) := by decide +kernel
theorem dX2_drawHeats_56 : decode cX2_drawHeats 56 = .ok (.aload_n 0, 1) := by decide +kernel
theorem dX2_drawHeats_57 : decode cX2_drawHeats 57 = .ok (.getfield 14, 3) := by decide +kernel
theorem dX2_drawHeats_60 : decode cX2_drawHeats 60 = .ok (.iload_n 1, 1) := by decide +kernel
theorem dX2_drawHeats_61 : decode cX2_drawHeats 61 = .ok (.invokevirtual 75, 3) := by decide +kernel
theorem dX2_drawHeats_64 : decode cX2_drawHeats 64 = .ok (.iload_n 2, 1) := by decide +kernel
theorem dX2_drawHeats_65 : decode cX2_drawHeats 65 = .ok (.iconst 2, 1) := by decide +kernel
theorem dX2_drawHeats_66 : decode cX2_drawHeats 66 = .ok (.irem, 1) := by decide +kernel
theorem dX2_drawHeats_67 : decode cX2_drawHeats 67 = .ok (.ifCond .ne 7, 3) := by decide +kernel
theorem dX2_drawHeats_70 : decode cX2_drawHeats 70 = .ok (.iload_n 3, 1) := by decide +kernel
theorem dX2_drawHeats_71 : decode cX2_drawHeats 71 = .ok (.goto 11, 3) := by decide +kernel
theorem dX2_drawHeats_74 : decode cX2_drawHeats 74 = .ok (.aload_n 0, 1) := by decide +kernel
theorem dX2_drawHeats_75 : decode cX2_drawHeats 75 = .ok (.getfield 42, 3) := by decide +kernel
theorem dX2_drawHeats_78 : decode cX2_drawHeats 78 = .ok (.iconst 1, 1) := by decide +kernel
theorem dX2_drawHeats_79 : decode cX2_drawHeats 79 = .ok (.isub, 1) := by decide +kernel
theorem dX2_drawHeats_80 : decode cX2_drawHeats 80 = .ok (.iload_n 3, 1) := by decide +kernel
theorem dX2_drawHeats_81 : decode cX2_drawHeats 81 = .ok (.isub, 1) := by decide +kernel
theorem dX2_drawHeats_82 : decode cX2_drawHeats 82 = .ok (.iload_n 2, 1) := by decide +kernel
theorem dX2_drawHeats_83 : decode cX2_drawHeats 83 = .ok (.invokevirtual 78, 3) := by decide +kernel
theorem dX2_drawHeats_86 : decode cX2_drawHeats 86 = .ok (.iinc 1 1, 3) := by decide +kernel
theorem dX2_drawHeats_89 : decode cX2_drawHeats 89 = .ok (.goto (-59), 3) := by decide +kernel
theorem dX2_drawHeats_92 : decode cX2_drawHeats 92 = .ok (.aload_n 0, 1) := by decide +kernel
theorem dX2_drawHeats_93 : decode cX2_drawHeats 93 = .ok (.iconst 1, 1) := by decide +kernel
theorem dX2_drawHeats_94 : decode cX2_drawHeats 94 = .ok (.putfield 46, 3) := by decide +kernel
theorem dX2_drawHeats_97 : decode cX2_drawHeats 97 = .ok (.aload_n 0, 1) := by decide +kernel
theorem dX2_drawHeats_98 : decode cX2_drawHeats 98 = .ok (.getfield 42, 3) := by decide +kernel
theorem dX2_drawHeats_101 : decode cX2_drawHeats 101 = .ok (.ireturn, 1) := by decide +kernel
set_option maxRecDepth 20000 in
theorem ggX2_putInLane_X6_put : GoodIn wsX2_putInLane wsX6_put := goodIn_r _ [7, 8, 17, 18] (by decide +kernel) (by decide +kernel)
set_option maxRecDepth 20000 in
theorem gX2_putInLane_X6_put : GoodIn wsX2_putInLane (wsV RX2 86 RX6 yX6_put wsX6_put) := goodIn_app (goodIn_of _ (by decide +kernel)) ggX2_putInLane_X6_put
theorem dX2_putInLane_0 : decode cX2_putInLane 0 = .ok (.iload_n 3, 1) := by decide +kernel
theorem dX2_putInLane_1 : decode cX2_putInLane 1 = .ok (.ifCond .lt 11, 3) := by decide +kernel
theorem dX2_putInLane_4 : decode cX2_putInLane 4 = .ok (.iload_n 3, 1) := by decide +kernel
theorem dX2_putInLane_5 : decode cX2_putInLane 5 = .ok (.getstatic 82, 3) := by decide +kernel
theorem dX2_putInLane_8 : decode cX2_putInLane 8 = .ok (.arraylength, 1) := by decide +kernel
theorem dX2_putInLane_9 : decode cX2_putInLane 9 = .ok (.if_icmp .lt 4, 3) := by decide +kernel
theorem dX2_putInLane_12 : decode cX2_putInLane 12 = .ok (.return_, 1) := by decide +kernel
theorem dX2_putInLane_13 : decode cX2_putInLane 13 = .ok (.aload_n 0, 1) := by decide +kernel
theorem dX2_putInLane_14 : decode cX2_putInLane 14 = .ok (.getfield 25, 3) := by decide +kernel
theorem dX2_putInLane_17 : decode cX2_putInLane 17 = .ok (.iload_n 1, 1) := by decide +kernel
theorem dX2_putInLane_18 : decode cX2_putInLane 18 = .ok (.iload_n 2, 1) := by decide +kernel
theorem dX2_putInLane_19 : decode cX2_putInLane 19 = .ok (.invokevirtual 86, 3) := by decide +kernel
theorem dX2_putInLane_22 : decode cX2_putInLane 22 = .ok (.aload_n 0, 1) := by decide +kernel
theorem dX2_putInLane_23 : decode cX2_putInLane 23 = .ok (.getfield 29, 3) := by decide +kernel
theorem dX2_putInLane_26 : decode cX2_putInLane 26 = .ok (.iload_n 2, 1) := by decide +kernel
theorem dX2_putInLane_27 : decode cX2_putInLane 27 = .ok (.bipush 6, 2) := by decide +kernel
theorem dX2_putInLane_29 : decode cX2_putInLane 29 = .ok (.imul, 1) := by decide +kernel
theorem dX2_putInLane_30 : decode cX2_putInLane 30 = .ok (.getstatic 82, 3) := by decide +kernel
theorem dX2_putInLane_33 : decode cX2_putInLane 33 = .ok (.iload_n 3, 1) := by decide +kernel
theorem dX2_putInLane_34 : decode cX2_putInLane 34 = .ok (.iaload, 1) := by decide +kernel
theorem dX2_putInLane_35 : decode cX2_putInLane 35 = .ok (.iadd, 1) := by decide +kernel
theorem dX2_putInLane_36 : decode cX2_putInLane 36 = .ok (.iconst 1, 1) := by decide +kernel
theorem dX2_putInLane_37 : decode cX2_putInLane 37 = .ok (.isub, 1) := by decide +kernel
theorem dX2_putInLane_38 : decode cX2_putInLane 38 = .ok (.iload_n 1, 1) := by decide +kernel
theorem dX2_putInLane_39 : decode cX2_putInLane 39 = .ok (.invokevirtual 86, 3) := by decide +kernel
theorem dX2_putInLane_42 : decode cX2_putInLane 42 = .ok (.return_, 1) := by decide +kernel
set_option maxRecDepth 20000 in
theorem ggX2_tellTime_X6_put : GoodIn wsX2_tellTime wsX6_put := goodIn_r _ [6, 7, 51, 52] (by decide +kernel) (by decide +kernel)
set_option maxRecDepth 20000 in
theorem gX2_tellTime_X6_put : GoodIn wsX2_tellTime (wsV RX2 86 RX6 yX6_put wsX6_put) := goodIn_app (goodIn_of _ (by decide +kernel)) ggX2_tellTime_X6_put
set_option maxRecDepth 20000 in
theorem ggX2_tellTime_X2_placeInHeat : GoodIn wsX2_tellTime wsX2_placeInHeat := goodIn_r _ [12, 13, 14, 15, 16, 17, 18, 19, 20, 21, 22, 23, 24, 25, 26, 27, 28, 29, 30, 31, 32, 5, 33, 7, 34, 35, 36, 37, 11, 38, 1, 39, 40, 41, 42, 43, 44, 45, 46, 47, 48, 49, 50, 53, 54, 51, 52] (by decide +kernel) (by decide +kernel)
set_option maxRecDepth 20000 in
theorem gX2_tellTime_X2_placeInHeat : GoodIn wsX2_tellTime (wsV RX2 89 RX2 yX2_placeInHeat wsX2_placeInHeat) := goodIn_app (goodIn_of _ (by decide +kernel)) ggX2_tellTime_X2_placeInHeat
theorem dX2_tellTime_0 : decode cX2_tellTime 0 = .ok (.aload_n 0, 1) := by decide +kernel
theorem dX2_tellTime_1 : decode cX2_tellTime 1 = .ok (.getfield 33, 3) := by decide +kernel
theorem dX2_tellTime_4 : decode cX2_tellTime 4 = .ok (.iload_n 1, 1) := by decide +kernel
theorem dX2_tellTime_5 : decode cX2_tellTime 5 = .ok (.iload_n 2, 1) := by decide +kernel
theorem dX2_tellTime_6 : decode cX2_tellTime 6 = .ok (.invokevirtual 86, 3) := by decide +kernel
theorem dX2_tellTime_9 : decode cX2_tellTime 9 = .ok (.aload_n 0, 1) := by decide +kernel
theorem dX2_tellTime_10 : decode cX2_tellTime 10 = .ok (.iload_n 1, 1) := by decide +kernel
theorem dX2_tellTime_11 : decode cX2_tellTime 11 = .ok (.invokevirtual 89, 3) := by decide +kernel
theorem dX2_tellTime_14 : decode cX2_tellTime 14 = .ok (.ireturn, 1) := by decide +kernel
set_option maxRecDepth 20000 in
theorem ggX2_isAhead_X6_get : GoodIn wsX2_isAhead wsX6_get := goodIn_r _ [7, 8, 9, 25, 26] (by decide +kernel) (by decide +kernel)
set_option maxRecDepth 20000 in
theorem gX2_isAhead_X6_get : GoodIn wsX2_isAhead (wsV RX2 69 RX6 yX6_get wsX6_get) := goodIn_app (goodIn_of _ (by decide +kernel)) ggX2_isAhead_X6_get
set_option maxRecDepth 20000 in
theorem ggX2_isAhead_X5_indexOf : GoodIn wsX2_isAhead wsX5_indexOf := goodIn_r _ [14, 15, 16, 27, 28] (by decide +kernel) (by decide +kernel)
set_option maxRecDepth 20000 in
theorem gX2_isAhead_X5_indexOf : GoodIn wsX2_isAhead (wsV RX2 62 RX5 yX5_indexOf wsX5_indexOf) := goodIn_app (goodIn_of _ (by decide +kernel)) ggX2_isAhead_X5_indexOf
theorem dX2_isAhead_0 : decode cX2_isAhead 0 = .ok (.aload_n 0, 1) := by decide +kernel
theorem dX2_isAhead_1 : decode cX2_isAhead 1 = .ok (.getfield 33, 3) := by decide +kernel
theorem dX2_isAhead_4 : decode cX2_isAhead 4 = .ok (.iload_n 1, 1) := by decide +kernel
theorem dX2_isAhead_5 : decode cX2_isAhead 5 = .ok (.invokevirtual 69, 3) := by decide +kernel
theorem dX2_isAhead_8 : decode cX2_isAhead 8 = .ok (.aload_n 0, 1) := by decide +kernel
theorem dX2_isAhead_9 : decode cX2_isAhead 9 = .ok (.getfield 33, 3) := by decide +kernel
theorem dX2_isAhead_12 : decode cX2_isAhead 12 = .ok (.iload_n 2, 1) := by decide +kernel
theorem dX2_isAhead_13 : decode cX2_isAhead 13 = .ok (.invokevirtual 69, 3) := by decide +kernel
theorem dX2_isAhead_16 : decode cX2_isAhead 16 = .ok (.isub, 1) := by decide +kernel
theorem dX2_isAhead_17 : decode cX2_isAhead 17 = .ok (.istore_n 3, 1) := by decide +kernel
theorem dX2_isAhead_18 : decode cX2_isAhead 18 = .ok (.iload_n 3, 1) := by decide +kernel
theorem dX2_isAhead_19 : decode cX2_isAhead 19 = .ok (.ifCond .lt 26, 3) := by decide +kernel
theorem dX2_isAhead_22 : decode cX2_isAhead 22 = .ok (.iload_n 3, 1) := by decide +kernel
theorem dX2_isAhead_23 : decode cX2_isAhead 23 = .ok (.ifCond .ne 26, 3) := by decide +kernel
theorem dX2_isAhead_26 : decode cX2_isAhead 26 = .ok (.aload_n 0, 1) := by decide +kernel
theorem dX2_isAhead_27 : decode cX2_isAhead 27 = .ok (.getfield 14, 3) := by decide +kernel
theorem dX2_isAhead_30 : decode cX2_isAhead 30 = .ok (.iload_n 1, 1) := by decide +kernel
theorem dX2_isAhead_31 : decode cX2_isAhead 31 = .ok (.invokevirtual 62, 3) := by decide +kernel
theorem dX2_isAhead_34 : decode cX2_isAhead 34 = .ok (.aload_n 0, 1) := by decide +kernel
theorem dX2_isAhead_35 : decode cX2_isAhead 35 = .ok (.getfield 14, 3) := by decide +kernel
theorem dX2_isAhead_38 : decode cX2_isAhead 38 = .ok (.iload_n 2, 1) := by decide +kernel
theorem dX2_isAhead_39 : decode cX2_isAhead 39 = .ok (.invokevirtual 62, 3) := by decide +kernel
theorem dX2_isAhead_42 : decode cX2_isAhead 42 = .ok (.if_icmp .ge 7, 3) := by decide +kernel
theorem dX2_isAhead_45 : decode cX2_isAhead 45 = .ok (.iconst 1, 1) := by decide +kernel
theorem dX2_isAhead_46 : decode cX2_isAhead 46 = .ok (.goto 4, 3) := by decide +kernel
theorem dX2_isAhead_49 : decode cX2_isAhead 49 = .ok (.iconst 0, 1) := by decide +kernel
theorem dX2_isAhead_50 : decode cX2_isAhead 50 = .ok (.ireturn, 1) := by decide +kernel
set_option maxRecDepth 20000 in
theorem ggX2_placeInHeat_X5_size : GoodIn wsX2_placeInHeat wsX5_size := goodIn_r _ [7, 8, 43, 44] (by decide +kernel) (by decide +kernel)
set_option maxRecDepth 20000 in
theorem gX2_placeInHeat_X5_size : GoodIn wsX2_placeInHeat (wsV RX2 58 RX5 yX5_size wsX5_size) := goodIn_app (goodIn_of _ (by decide +kernel)) ggX2_placeInHeat_X5_size
set_option maxRecDepth 20000 in
theorem ggX2_placeInHeat_X5_at : GoodIn wsX2_placeInHeat wsX5_at := goodIn_r _ [12, 13, 14, 15, 16, 6, 17, 8, 43, 44] (by decide +kernel) (by decide +kernel)
set_option maxRecDepth 20000 in
theorem gX2_placeInHeat_X5_at : GoodIn wsX2_placeInHeat (wsV RX2 75 RX5 yX5_at wsX5_at) := goodIn_app (goodIn_of _ (by decide +kernel)) ggX2_placeInHeat_X5_at
set_option maxRecDepth 20000 in
theorem ggX2_placeInHeat_X6_get : GoodIn wsX2_placeInHeat wsX6_get := goodIn_r _ [22, 23, 24, 45, 46] (by decide +kernel) (by decide +kernel)
set_option maxRecDepth 20000 in
theorem gX2_placeInHeat_X6_get : GoodIn wsX2_placeInHeat (wsV RX2 69 RX6 yX6_get wsX6_get) := goodIn_app (goodIn_of _ (by decide +kernel)) ggX2_placeInHeat_X6_get
set_option maxRecDepth 20000 in
theorem ggX2_placeInHeat_X2_isAhead : GoodIn wsX2_placeInHeat wsX2_isAhead := goodIn_r _ [29, 30, 1, 18, 19, 20, 21, 22, 23, 24, 31, 32, 33, 6, 34, 8, 13, 35, 36, 37, 38, 39, 40, 41, 42, 45, 46, 43, 44] (by decide +kernel) (by decide +kernel)
set_option maxRecDepth 20000 in
theorem gX2_placeInHeat_X2_isAhead : GoodIn wsX2_placeInHeat (wsV RX2 92 RX2 yX2_isAhead wsX2_isAhead) := goodIn_app (goodIn_of _ (by decide +kernel)) ggX2_placeInHeat_X2_isAhead
theorem dX2_placeInHeat_0 : decode cX2_placeInHeat 0 = .ok (.iconst 0, 1) := by decide +kernel
theorem dX2_placeInHeat_1 : decode cX2_placeInHeat 1 = .ok (.istore_n 2, 1) := by decide +kernel
theorem dX2_placeInHeat_2 : decode cX2_placeInHeat 2 = .ok (.iconst 0, 1) := by decide +kernel
theorem dX2_placeInHeat_3 : decode cX2_placeInHeat 3 = .ok (.istore_n 3, 1) := by decide +kernel
theorem dX2_placeInHeat_4 : decode cX2_placeInHeat 4 = .ok (.iload_n 3, 1) := by decide +kernel
theorem dX2_placeInHeat_5 : decode cX2_placeInHeat 5 = .ok (.aload_n 0, 1) := by decide +kernel
theorem dX2_placeInHeat_6 : decode cX2_placeInHeat 6 = .ok (.getfield 14, 3) := by decide +kernel
theorem dX2_placeInHeat_9 : decode cX2_placeInHeat 9 = .ok (.invokevirtual 58, 3) := by decide +kernel
theorem dX2_placeInHeat_12 : decode cX2_placeInHeat 12 = .ok (.if_icmp .ge 52, 3) := by decide +kernel
theorem dX2_placeInHeat_15 : decode cX2_placeInHeat 15 = .ok (.aload_n 0, 1) := by decide +kernel
theorem dX2_placeInHeat_16 : decode cX2_placeInHeat 16 = .ok (.getfield 14, 3) := by decide +kernel
theorem dX2_placeInHeat_19 : decode cX2_placeInHeat 19 = .ok (.iload_n 3, 1) := by decide +kernel
theorem dX2_placeInHeat_20 : decode cX2_placeInHeat 20 = .ok (.invokevirtual 75, 3) := by decide +kernel
theorem dX2_placeInHeat_23 : decode cX2_placeInHeat 23 = .ok (.istore 4, 2) := by decide +kernel
theorem dX2_placeInHeat_25 : decode cX2_placeInHeat 25 = .ok (.aload_n 0, 1) := by decide +kernel
theorem dX2_placeInHeat_26 : decode cX2_placeInHeat 26 = .ok (.getfield 25, 3) := by decide +kernel
theorem dX2_placeInHeat_29 : decode cX2_placeInHeat 29 = .ok (.iload 4, 2) := by decide +kernel
theorem dX2_placeInHeat_31 : decode cX2_placeInHeat 31 = .ok (.invokevirtual 69, 3) := by decide +kernel
theorem dX2_placeInHeat_34 : decode cX2_placeInHeat 34 = .ok (.aload_n 0, 1) := by decide +kernel
theorem dX2_placeInHeat_35 : decode cX2_placeInHeat 35 = .ok (.getfield 25, 3) := by decide +kernel
theorem dX2_placeInHeat_38 : decode cX2_placeInHeat 38 = .ok (.iload_n 1, 1) := by decide +kernel
theorem dX2_placeInHeat_39 : decode cX2_placeInHeat 39 = .ok (.invokevirtual 69, 3) := by decide +kernel
theorem dX2_placeInHeat_42 : decode cX2_placeInHeat 42 = .ok (.if_icmp .ne 16, 3) := by decide +kernel
theorem dX2_placeInHeat_45 : decode cX2_placeInHeat 45 = .ok (.aload_n 0, 1) := by decide +kernel
theorem dX2_placeInHeat_46 : decode cX2_placeInHeat 46 = .ok (.iload 4, 2) := by decide +kernel
theorem dX2_placeInHeat_48 : decode cX2_placeInHeat 48 = .ok (.iload_n 1, 1) := by decide +kernel
theorem dX2_placeInHeat_49 : decode cX2_placeInHeat 49 = .ok (.invokevirtual 92, 3) := by decide +kernel
theorem dX2_placeInHeat_52 : decode cX2_placeInHeat 52 = .ok (.ifCond .eq 6, 3) := by decide +kernel
theorem dX2_placeInHeat_55 : decode cX2_placeInHeat 55 = .ok (.iinc 2 1, 3) := by decide +kernel
theorem dX2_placeInHeat_58 : decode cX2_placeInHeat 58 = .ok (.iinc 3 1, 3) := by decide +kernel
theorem dX2_placeInHeat_61 : decode cX2_placeInHeat 61 = .ok (.goto (-57), 3) := by decide +kernel
theorem dX2_placeInHeat_64 : decode cX2_placeInHeat 64 = .ok (.iload_n 2, 1) := by decide +kernel
theorem dX2_placeInHeat_65 : decode cX2_placeInHeat 65 = .ok (.ireturn, 1) := by decide +kernel
set_option maxRecDepth 20000 in
theorem ggX2_insertByTime_X5_size : GoodIn wsX2_insertByTime wsX5_size := goodIn_r _ [5, 6, 38, 39] (by decide +kernel) (by decide +kernel)
set_option maxRecDepth 20000 in
theorem gX2_insertByTime_X5_size : GoodIn wsX2_insertByTime (wsV RX2 58 RX5 yX5_size wsX5_size) := goodIn_app (goodIn_of _ (by decide +kernel)) ggX2_insertByTime_X5_size
set_option maxRecDepth 20000 in
theorem ggX2_insertByTime_X5_at : GoodIn wsX2_insertByTime wsX5_at := goodIn_r _ [10, 11, 12, 13, 14, 4, 15, 6, 38, 39] (by decide +kernel) (by decide +kernel)
set_option maxRecDepth 20000 in
theorem gX2_insertByTime_X5_at : GoodIn wsX2_insertByTime (wsV RX2 75 RX5 yX5_at wsX5_at) := goodIn_app (goodIn_of _ (by decide +kernel)) ggX2_insertByTime_X5_at
set_option maxRecDepth 20000 in
theorem ggX2_insertByTime_X2_isAhead : GoodIn wsX2_insertByTime wsX2_isAhead := goodIn_r _ [20, 21, 22, 23, 24, 25, 26, 27, 28, 29, 30, 31, 32, 4, 33, 6, 11, 40, 41, 42, 43, 44, 45, 46, 47, 48, 49, 38, 39] (by decide +kernel) (by decide +kernel)
set_option maxRecDepth 20000 in
theorem gX2_insertByTime_X2_isAhead : GoodIn wsX2_insertByTime (wsV RX2 92 RX2 yX2_isAhead wsX2_isAhead) := goodIn_app (goodIn_of _ (by decide +kernel)) ggX2_insertByTime_X2_isAhead
set_option maxRecDepth 20000 in
theorem ggX2_insertByTime_X5_insert : GoodIn wsX2_insertByTime wsX5_insert := goodIn_r _ [37, 6, 11, 38, 39] (by decide +kernel) (by decide +kernel)
set_option maxRecDepth 20000 in
theorem gX2_insertByTime_X5_insert : GoodIn wsX2_insertByTime (wsV RX2 96 RX5 yX5_insert wsX5_insert) := goodIn_app (goodIn_of _ (by decide +kernel)) ggX2_insertByTime_X5_insert
theorem dX2_insertByTime_0 : decode cX2_insertByTime 0 = .ok (.iconst 0, 1) := by decide +kernel
theorem dX2_insertByTime_1 : decode cX2_insertByTime 1 = .ok (.istore_n 3, 1) := by decide +kernel
theorem dX2_insertByTime_2 : decode cX2_insertByTime 2 = .ok (.iload_n 3, 1) := by decide +kernel
theorem dX2_insertByTime_3 : decode cX2_insertByTime 3 = .ok (.aload_n 1, 1) := by decide +kernel
theorem dX2_insertByTime_4 : decode cX2_insertByTime 4 = .ok (.invokevirtual 58, 3) := by decide +kernel
theorem dX2_insertByTime_7 : decode cX2_insertByTime 7 = .ok (.if_icmp .ge 22, 3) := by decide +kernel
theorem dX2_insertByTime_10 : decode cX2_insertByTime 10 = .ok (.aload_n 0, 1) := by decide +kernel
theorem dX2_insertByTime_11 : decode cX2_insertByTime 11 = .ok (.aload_n 1, 1) := by decide +kernel
theorem dX2_insertByTime_12 : decode cX2_insertByTime 12 = .ok (.iload_n 3, 1) := by decide +kernel
theorem dX2_insertByTime_13 : decode cX2_insertByTime 13 = .ok (.invokevirtual 75, 3) := by decide +kernel
theorem dX2_insertByTime_16 : decode cX2_insertByTime 16 = .ok (.iload_n 2, 1) := by decide +kernel
theorem dX2_insertByTime_17 : decode cX2_insertByTime 17 = .ok (.invokevirtual 92, 3) := by decide +kernel
theorem dX2_insertByTime_20 : decode cX2_insertByTime 20 = .ok (.ifCond .eq 9, 3) := by decide +kernel
theorem dX2_insertByTime_23 : decode cX2_insertByTime 23 = .ok (.iinc 3 1, 3) := by decide +kernel
theorem dX2_insertByTime_26 : decode cX2_insertByTime 26 = .ok (.goto (-24), 3) := by decide +kernel
theorem dX2_insertByTime_29 : decode cX2_insertByTime 29 = .ok (.aload_n 1, 1) := by decide +kernel
theorem dX2_insertByTime_30 : decode cX2_insertByTime 30 = .ok (.iload_n 3, 1) := by decide +kernel
theorem dX2_insertByTime_31 : decode cX2_insertByTime 31 = .ok (.iload_n 2, 1) := by decide +kernel
theorem dX2_insertByTime_32 : decode cX2_insertByTime 32 = .ok (.invokevirtual 96, 3) := by decide +kernel
theorem dX2_insertByTime_35 : decode cX2_insertByTime 35 = .ok (.return_, 1) := by decide +kernel
set_option maxRecDepth 20000 in
theorem ggX2_endRound_X2_chooseFinal : GoodIn wsX2_endRound wsX2_chooseFinal := goodIn_r _ [7, 8, 9, 2, 10, 11, 12, 13, 14, 15, 16, 17, 18, 19, 20, 21, 22, 23, 24, 25, 26, 27, 28, 29, 30, 31, 32, 33, 34, 6, 35, 36, 37, 38, 39, 40, 41, 42, 43, 44, 45, 46, 47, 48, 49, 50, 51, 52, 53, 54, 55, 56, 57, 58, 59, 85, 86, 87, 88, 89, 90, 91, 92, 93, 94, 95, 96] (by decide +kernel) (by decide +kernel)
set_option maxRecDepth 20000 in
theorem gX2_endRound_X2_chooseFinal : GoodIn wsX2_endRound (wsV RX2 99 RX2 yX2_chooseFinal wsX2_chooseFinal) := goodIn_app (goodIn_of _ (by decide +kernel)) ggX2_endRound_X2_chooseFinal
set_option maxRecDepth 20000 in
theorem ggX2_endRound_X2_layFinal : GoodIn wsX2_endRound wsX2_layFinal := goodIn_r _ [63, 8, 2, 64, 65, 66, 6, 67, 36, 68, 11, 69, 70, 71, 40, 72, 42, 43, 19, 20, 21, 16, 22, 18, 23, 24, 25, 26, 27, 28, 29, 30, 31, 73, 74, 75, 76, 77, 78, 79, 80, 85, 86, 87, 88, 89, 90, 91, 92, 95, 96, 93, 94] (by decide +kernel) (by decide +kernel)
set_option maxRecDepth 20000 in
theorem gX2_endRound_X2_layFinal : GoodIn wsX2_endRound (wsV RX2 102 RX2 yX2_layFinal wsX2_layFinal) := goodIn_app (goodIn_of _ (by decide +kernel)) ggX2_endRound_X2_layFinal
set_option maxRecDepth 20000 in
theorem ggX2_endRound_X2_rankResults : GoodIn wsX2_endRound wsX2_rankResults := goodIn_r _ [84, 8, 10, 36, 13, 14, 15, 16, 17, 18, 19, 20, 21, 22, 23, 24, 25, 26, 27, 28, 29, 30, 31, 37, 38, 39, 40, 41, 42, 43, 52, 53, 54, 6, 55, 44, 45, 46, 47, 11, 48, 49, 50, 51, 56, 57, 58, 59, 85, 86, 87, 88, 89, 90, 91, 92, 93, 94, 95, 96] (by decide +kernel) (by decide +kernel)
set_option maxRecDepth 20000 in
theorem gX2_endRound_X2_rankResults : GoodIn wsX2_endRound (wsV RX2 105 RX2 yX2_rankResults wsX2_rankResults) := goodIn_app (goodIn_of _ (by decide +kernel)) ggX2_endRound_X2_rankResults
theorem dX2_endRound_0 : decode cX2_endRound 0 = .ok (.aload_n 0, 1) := by decide +kernel
theorem dX2_endRound_1 : decode cX2_endRound 1 = .ok (.getfield 46, 3) := by decide +kernel
theorem dX2_endRound_4 : decode cX2_endRound 4 = .ok (.iconst 1, 1) := by decide +kernel
theorem dX2_endRound_5 : decode cX2_endRound 5 = .ok (.if_icmp .ne 27, 3) := by decide +kernel
theorem dX2_endRound_8 : decode cX2_endRound 8 = .ok (.aload_n 0, 1) := by decide +kernel
theorem dX2_endRound_9 : decode cX2_endRound 9 = .ok (.getfield 42, 3) := by decide +kernel
theorem dX2_endRound_12 : decode cX2_endRound 12 = .ok (.iconst 1, 1) := by decide +kernel
theorem dX2_endRound_13 : decode cX2_endRound 13 = .ok (.if_icmp .le 19, 3) := by decide +kernel
theorem dX2_endRound_16 : decode cX2_endRound 16 = .ok (.aload_n 0, 1) := by decide +kernel
theorem dX2_endRound_17 : decode cX2_endRound 17 = .ok (.invokevirtual 99, 3) := by decide +kernel
theorem dX2_endRound_20 : decode cX2_endRound 20 = .ok (.aload_n 0, 1) := by decide +kernel
theorem dX2_endRound_21 : decode cX2_endRound 21 = .ok (.invokevirtual 102, 3) := by decide +kernel
theorem dX2_endRound_24 : decode cX2_endRound 24 = .ok (.aload_n 0, 1) := by decide +kernel
theorem dX2_endRound_25 : decode cX2_endRound 25 = .ok (.iconst 2, 1) := by decide +kernel
theorem dX2_endRound_26 : decode cX2_endRound 26 = .ok (.putfield 46, 3) := by decide +kernel
theorem dX2_endRound_29 : decode cX2_endRound 29 = .ok (.goto 12, 3) := by decide +kernel
theorem dX2_endRound_32 : decode cX2_endRound 32 = .ok (.aload_n 0, 1) := by decide +kernel
theorem dX2_endRound_33 : decode cX2_endRound 33 = .ok (.invokevirtual 105, 3) := by decide +kernel
theorem dX2_endRound_36 : decode cX2_endRound 36 = .ok (.aload_n 0, 1) := by decide +kernel
theorem dX2_endRound_37 : decode cX2_endRound 37 = .ok (.iconst 3, 1) := by decide +kernel
theorem dX2_endRound_38 : decode cX2_endRound 38 = .ok (.putfield 46, 3) := by decide +kernel
theorem dX2_endRound_41 : decode cX2_endRound 41 = .ok (.aload_n 0, 1) := by decide +kernel
theorem dX2_endRound_42 : decode cX2_endRound 42 = .ok (.getfield 46, 3) := by decide +kernel
theorem dX2_endRound_45 : decode cX2_endRound 45 = .ok (.ireturn, 1) := by decide +kernel
set_option maxRecDepth 20000 in
theorem ggX2_chooseFinal_X5_clear : GoodIn wsX2_chooseFinal wsX5_clear := goodIn_r _ [11, 12, 63, 64] (by decide +kernel) (by decide +kernel)
set_option maxRecDepth 20000 in
theorem gX2_chooseFinal_X5_clear : GoodIn wsX2_chooseFinal (wsV RX2 49 RX5 yX5_clear wsX5_clear) := goodIn_app (goodIn_of _ (by decide +kernel)) ggX2_chooseFinal_X5_clear
set_option maxRecDepth 20000 in
theorem ggX2_chooseFinal_X5_size : GoodIn wsX2_chooseFinal wsX5_size := goodIn_r _ [16, 12, 63, 64] (by decide +kernel) (by decide +kernel)
set_option maxRecDepth 20000 in
theorem gX2_chooseFinal_X5_size : GoodIn wsX2_chooseFinal (wsV RX2 58 RX5 yX5_size wsX5_size) := goodIn_app (goodIn_of _ (by decide +kernel)) ggX2_chooseFinal_X5_size
set_option maxRecDepth 20000 in
theorem ggX2_chooseFinal_X5_at : GoodIn wsX2_chooseFinal wsX5_at := goodIn_r _ [20, 21, 22, 23, 24, 10, 25, 12, 63, 64] (by decide +kernel) (by decide +kernel)
set_option maxRecDepth 20000 in
theorem gX2_chooseFinal_X5_at : GoodIn wsX2_chooseFinal (wsV RX2 75 RX5 yX5_at wsX5_at) := goodIn_app (goodIn_of _ (by decide +kernel)) ggX2_chooseFinal_X5_at
set_option maxRecDepth 20000 in
theorem ggX2_chooseFinal_X2_placeInHeat : GoodIn wsX2_chooseFinal wsX2_placeInHeat := goodIn_r _ [30, 4, 31, 13, 14, 15, 10, 16, 12, 17, 18, 19, 20, 21, 22, 23, 24, 25, 32, 33, 34, 35, 36, 37, 38, 39, 40, 41, 29, 42, 5, 43, 44, 45, 46, 55, 56, 57, 58, 59, 60, 61, 62, 63, 64, 65, 66] (by decide +kernel) (by decide +kernel)
set_option maxRecDepth 20000 in
theorem gX2_chooseFinal_X2_placeInHeat : GoodIn wsX2_chooseFinal (wsV RX2 89 RX2 yX2_placeInHeat wsX2_placeInHeat) := goodIn_app (goodIn_of _ (by decide +kernel)) ggX2_chooseFinal_X2_placeInHeat
set_option maxRecDepth 20000 in
theorem ggX2_chooseFinal_X2_insertByTime : GoodIn wsX2_chooseFinal wsX2_insertByTime := goodIn_r _ [50, 13, 14, 15, 10, 16, 12, 17, 18, 19, 20, 21, 22, 23, 24, 25, 39, 40, 41, 29, 42, 5, 4, 32, 33, 34, 35, 36, 37, 38, 43, 44, 45, 46, 51, 52, 53, 54, 63, 64, 55, 56, 57, 58, 59, 60, 61, 62, 65, 66] (by decide +kernel) (by decide +kernel)
set_option maxRecDepth 20000 in
theorem gX2_chooseFinal_X2_insertByTime : GoodIn wsX2_chooseFinal (wsV RX2 108 RX2 yX2_insertByTime wsX2_insertByTime) := goodIn_app (goodIn_of _ (by decide +kernel)) ggX2_chooseFinal_X2_insertByTime
set_option maxRecDepth 20000 in
theorem ggX2_chooseFinal_X6_get : GoodIn wsX2_chooseFinal wsX6_get := goodIn_r _ [36, 37, 38, 65, 66] (by decide +kernel) (by decide +kernel)
set_option maxRecDepth 20000 in
theorem gX2_chooseFinal_X6_get : GoodIn wsX2_chooseFinal (wsV RX2 69 RX6 yX6_get wsX6_get) := goodIn_app (goodIn_of _ (by decide +kernel)) ggX2_chooseFinal_X6_get
theorem dX2_chooseFinal_0 : decode cX2_chooseFinal 0 = .ok (.aload_n 0, 1) := by decide +kernel
theorem dX2_chooseFinal_1 : decode cX2_chooseFinal 1 = .ok (.getfield 36, 3) := by decide +kernel
theorem dX2_chooseFinal_4 : decode cX2_chooseFinal 4 = .ok (.invokevirtual 49, 3) := by decide +kernel
theorem dX2_chooseFinal_7 : decode cX2_chooseFinal 7 = .ok (.aload_n 0, 1) := by decide +kernel
theorem dX2_chooseFinal_8 : decode cX2_chooseFinal 8 = .ok (.getfield 39, 3) := by decide +kernel
theorem dX2_chooseFinal_11 : decode cX2_chooseFinal 11 = .ok (.invokevirtual 49, 3) := by decide +kernel
theorem dX2_chooseFinal_14 : decode cX2_chooseFinal 14 = .ok (.aload_n 0, 1) := by decide +kernel
theorem dX2_chooseFinal_15 : decode cX2_chooseFinal 15 = .ok (.getfield 42, 3) := by decide +kernel
theorem dX2_chooseFinal_18 : decode cX2_chooseFinal 18 = .ok (.ifCond .le 13, 3) := by decide +kernel
theorem dX2_chooseFinal_21 : decode cX2_chooseFinal 21 = .ok (.bipush 6, 2) := by decide +kernel
theorem dX2_chooseFinal_23 : decode cX2_chooseFinal 23 = .ok (.aload_n 0, 1) := by decide +kernel
theorem dX2_chooseFinal_24 : decode cX2_chooseFinal 24 = .ok (.getfield 42, 3) := by decide +kernel
theorem dX2_chooseFinal_27 : decode cX2_chooseFinal 27 = .ok (.idiv, 1) := by decide +kernel
theorem dX2_chooseFinal_28 : decode cX2_chooseFinal 28 = .ok (.goto 4, 3) := by decide +kernel
theorem dX2_chooseFinal_31 : decode cX2_chooseFinal 31 = .ok (.iconst 0, 1) := by decide +kernel
theorem dX2_chooseFinal_32 : decode cX2_chooseFinal 32 = .ok (.istore_n 1, 1) := by decide +kernel
theorem dX2_chooseFinal_33 : decode cX2_chooseFinal 33 = .ok (.iconst 0, 1) := by decide +kernel
theorem dX2_chooseFinal_34 : decode cX2_chooseFinal 34 = .ok (.istore_n 2, 1) := by decide +kernel
theorem dX2_chooseFinal_35 : decode cX2_chooseFinal 35 = .ok (.iload_n 2, 1) := by decide +kernel
theorem dX2_chooseFinal_36 : decode cX2_chooseFinal 36 = .ok (.aload_n 0, 1) := by decide +kernel
theorem dX2_chooseFinal_37 : decode cX2_chooseFinal 37 = .ok (.getfield 14, 3) := by decide +kernel
theorem dX2_chooseFinal_40 : decode cX2_chooseFinal 40 = .ok (.invokevirtual 58, 3) := by decide +kernel
theorem dX2_chooseFinal_43 : decode cX2_chooseFinal 43 = .ok (.if_icmp .ge 61, 3) := by decide +kernel
theorem dX2_chooseFinal_46 : decode cX2_chooseFinal 46 = .ok (.aload_n 0, 1) := by decide +kernel
theorem dX2_chooseFinal_47 : decode cX2_chooseFinal 47 = .ok (.getfield 14, 3) := by decide +kernel
theorem dX2_chooseFinal_50 : decode cX2_chooseFinal 50 = .ok (.iload_n 2, 1) := by decide +kernel
theorem dX2_chooseFinal_51 : decode cX2_chooseFinal 51 = .ok (.invokevirtual 75, 3) := by decide +kernel
theorem dX2_chooseFinal_54 : decode cX2_chooseFinal 54 = .ok (.istore_n 3, 1) := by decide +kernel
theorem dX2_chooseFinal_55 : decode cX2_chooseFinal 55 = .ok (.aload_n 0, 1) := by decide +kernel
theorem dX2_chooseFinal_56 : decode cX2_chooseFinal 56 = .ok (.iload_n 3, 1) := by decide +kernel
theorem dX2_chooseFinal_57 : decode cX2_chooseFinal 57 = .ok (.invokevirtual 89, 3) := by decide +kernel
theorem dX2_chooseFinal_60 : decode cX2_chooseFinal 60 = .ok (.iload_n 1, 1) := by decide +kernel
theorem dX2_chooseFinal_61 : decode cX2_chooseFinal 61 = .ok (.if_icmp .ge 15, 3) := by decide +kernel
theorem dX2_chooseFinal_64 : decode cX2_chooseFinal 64 = .ok (.aload_n 0, 1) := by decide +kernel
theorem dX2_chooseFinal_65 : decode cX2_chooseFinal 65 = .ok (.aload_n 0, 1) := by decide +kernel
theorem dX2_chooseFinal_66 : decode cX2_chooseFinal 66 = .ok (.getfield 36, 3) := by decide +kernel
theorem dX2_chooseFinal_69 : decode cX2_chooseFinal 69 = .ok (.iload_n 3, 1) := by decide +kernel
theorem dX2_chooseFinal_70 : decode cX2_chooseFinal 70 = .ok (.invokevirtual 108, 3) := by decide +kernel
theorem dX2_chooseFinal_73 : decode cX2_chooseFinal 73 = .ok (.goto 25, 3) := by decide +kernel
theorem dX2_chooseFinal_76 : decode cX2_chooseFinal 76 = .ok (.aload_n 0, 1) := by decide +kernel
theorem dX2_chooseFinal_77 : decode cX2_chooseFinal 77 = .ok (.getfield 33, 3) := by decide +kernel
theorem dX2_chooseFinal_80 : decode cX2_chooseFinal 80 = .ok (.iload_n 3, 1) := by decide +kernel
theorem dX2_chooseFinal_81 : decode cX2_chooseFinal 81 = .ok (.invokevirtual 69, 3) := by decide +kernel
theorem dX2_chooseFinal_84 : decode cX2_chooseFinal 84 = .ok (.ldc 32, 2) := by decide +kernel
theorem dX2_chooseFinal_86 : decode cX2_chooseFinal 86 = .ok (.if_icmp .eq 12, 3) := by decide +kernel
theorem dX2_chooseFinal_89 : decode cX2_chooseFinal 89 = .ok (.aload_n 0, 1) := by decide +kernel
theorem dX2_chooseFinal_90 : decode cX2_chooseFinal 90 = .ok (.aload_n 0, 1) := by decide +kernel
theorem dX2_chooseFinal_91 : decode cX2_chooseFinal 91 = .ok (.getfield 39, 3) := by decide +kernel
theorem dX2_chooseFinal_94 : decode cX2_chooseFinal 94 = .ok (.iload_n 3, 1) := by decide +kernel
theorem dX2_chooseFinal_95 : decode cX2_chooseFinal 95 = .ok (.invokevirtual 108, 3) := by decide +kernel
theorem dX2_chooseFinal_98 : decode cX2_chooseFinal 98 = .ok (.iinc 2 1, 3) := by decide +kernel
theorem dX2_chooseFinal_101 : decode cX2_chooseFinal 101 = .ok (.goto (-66), 3) := by decide +kernel
theorem dX2_chooseFinal_104 : decode cX2_chooseFinal 104 = .ok (.iconst 0, 1) := by decide +kernel
theorem dX2_chooseFinal_105 : decode cX2_chooseFinal 105 = .ok (.istore_n 2, 1) := by decide +kernel
theorem dX2_chooseFinal_106 : decode cX2_chooseFinal 106 = .ok (.iload_n 2, 1) := by decide +kernel
theorem dX2_chooseFinal_107 : decode cX2_chooseFinal 107 = .ok (.aload_n 0, 1) := by decide +kernel
theorem dX2_chooseFinal_108 : decode cX2_chooseFinal 108 = .ok (.getfield 39, 3) := by decide +kernel
theorem dX2_chooseFinal_111 : decode cX2_chooseFinal 111 = .ok (.invokevirtual 58, 3) := by decide +kernel
theorem dX2_chooseFinal_114 : decode cX2_chooseFinal 114 = .ok (.if_icmp .ge 37, 3) := by decide +kernel
theorem dX2_chooseFinal_117 : decode cX2_chooseFinal 117 = .ok (.aload_n 0, 1) := by decide +kernel
theorem dX2_chooseFinal_118 : decode cX2_chooseFinal 118 = .ok (.getfield 36, 3) := by decide +kernel
theorem dX2_chooseFinal_121 : decode cX2_chooseFinal 121 = .ok (.invokevirtual 58, 3) := by decide +kernel
theorem dX2_chooseFinal_124 : decode cX2_chooseFinal 124 = .ok (.bipush 6, 2) := by decide +kernel
theorem dX2_chooseFinal_126 : decode cX2_chooseFinal 126 = .ok (.if_icmp .ge 25, 3) := by decide +kernel
theorem dX2_chooseFinal_129 : decode cX2_chooseFinal 129 = .ok (.aload_n 0, 1) := by decide +kernel
theorem dX2_chooseFinal_130 : decode cX2_chooseFinal 130 = .ok (.aload_n 0, 1) := by decide +kernel
theorem dX2_chooseFinal_131 : decode cX2_chooseFinal 131 = .ok (.getfield 36, 3) := by decide +kernel
theorem dX2_chooseFinal_134 : decode cX2_chooseFinal 134 = .ok (.aload_n 0, 1) := by decide +kernel
theorem dX2_chooseFinal_135 : decode cX2_chooseFinal 135 = .ok (.getfield 39, 3) := by decide +kernel
theorem dX2_chooseFinal_138 : decode cX2_chooseFinal 138 = .ok (.iload_n 2, 1) := by decide +kernel
theorem dX2_chooseFinal_139 : decode cX2_chooseFinal 139 = .ok (.invokevirtual 75, 3) := by decide +kernel
theorem dX2_chooseFinal_142 : decode cX2_chooseFinal 142 = .ok (.invokevirtual 108, 3) := by decide +kernel
theorem dX2_chooseFinal_145 : decode cX2_chooseFinal 145 = .ok (.iinc 2 1, 3) := by decide +kernel
theorem dX2_chooseFinal_148 : decode cX2_chooseFinal 148 = .ok (.goto (-42), 3) := by decide +kernel
theorem dX2_chooseFinal_151 : decode cX2_chooseFinal 151 = .ok (.return_, 1) := by decide +kernel
set_option maxRecDepth 20000 in
theorem ggX2_layFinal_X2_clearRound : GoodIn wsX2_layFinal wsX2_clearRound := goodIn_r _ [7, 8, 9, 10, 11, 12, 13, 14, 15, 16, 17, 41, 42, 43, 44, 45, 46, 47, 48, 49, 50] (by decide +kernel) (by decide +kernel)
set_option maxRecDepth 20000 in
theorem gX2_layFinal_X2_clearRound : GoodIn wsX2_layFinal (wsV RX2 52 RX2 yX2_clearRound wsX2_clearRound) := goodIn_app (goodIn_of _ (by decide +kernel)) ggX2_layFinal_X2_clearRound
set_option maxRecDepth 20000 in
theorem ggX2_layFinal_X5_size : GoodIn wsX2_layFinal wsX5_size := goodIn_r _ [22, 23, 51, 52] (by decide +kernel) (by decide +kernel)
set_option maxRecDepth 20000 in
theorem gX2_layFinal_X5_size : GoodIn wsX2_layFinal (wsV RX2 58 RX5 yX5_size wsX5_size) := goodIn_app (goodIn_of _ (by decide +kernel)) ggX2_layFinal_X5_size
set_option maxRecDepth 20000 in
theorem ggX2_layFinal_X5_at : GoodIn wsX2_layFinal wsX5_at := goodIn_r _ [27, 28, 29, 30, 31, 21, 32, 23, 51, 52] (by decide +kernel) (by decide +kernel)
set_option maxRecDepth 20000 in
theorem gX2_layFinal_X5_at : GoodIn wsX2_layFinal (wsV RX2 75 RX5 yX5_at wsX5_at) := goodIn_app (goodIn_of _ (by decide +kernel)) ggX2_layFinal_X5_at
set_option maxRecDepth 20000 in
theorem ggX2_layFinal_X2_putInLane : GoodIn wsX2_layFinal wsX2_putInLane := goodIn_r _ [36, 8, 9, 37, 38, 39, 14, 40, 16, 41, 42, 43, 44, 45, 46, 47, 48, 49, 50] (by decide +kernel) (by decide +kernel)
set_option maxRecDepth 20000 in
theorem gX2_layFinal_X2_putInLane : GoodIn wsX2_layFinal (wsV RX2 78 RX2 yX2_putInLane wsX2_putInLane) := goodIn_app (goodIn_of _ (by decide +kernel)) ggX2_layFinal_X2_putInLane
theorem dX2_layFinal_0 : decode cX2_layFinal 0 = .ok (.aload_n 0, 1) := by decide +kernel
theorem dX2_layFinal_1 : decode cX2_layFinal 1 = .ok (.invokevirtual 52, 3) := by decide +kernel
theorem dX2_layFinal_4 : decode cX2_layFinal 4 = .ok (.iconst 0, 1) := by decide +kernel
theorem dX2_layFinal_5 : decode cX2_layFinal 5 = .ok (.istore_n 1, 1) := by decide +kernel
theorem dX2_layFinal_6 : decode cX2_layFinal 6 = .ok (.iload_n 1, 1) := by decide +kernel
theorem dX2_layFinal_7 : decode cX2_layFinal 7 = .ok (.aload_n 0, 1) := by decide +kernel
theorem dX2_layFinal_8 : decode cX2_layFinal 8 = .ok (.getfield 36, 3) := by decide +kernel
theorem dX2_layFinal_11 : decode cX2_layFinal 11 = .ok (.invokevirtual 58, 3) := by decide +kernel
theorem dX2_layFinal_14 : decode cX2_layFinal 14 = .ok (.if_icmp .ge 23, 3) := by decide +kernel
theorem dX2_layFinal_17 : decode cX2_layFinal 17 = .ok (.aload_n 0, 1) := by decide +kernel
theorem dX2_layFinal_18 : decode cX2_layFinal 18 = .ok (.aload_n 0, 1) := by decide +kernel
theorem dX2_layFinal_19 : decode cX2_layFinal 19 = .ok (.getfield 36, 3) := by decide +kernel
theorem dX2_layFinal_22 : decode cX2_layFinal 22 = .ok (.iload_n 1, 1) := by decide +kernel
theorem dX2_layFinal_23 : decode cX2_layFinal 23 = .ok (.invokevirtual 75, 3) := by decide +kernel
theorem dX2_layFinal_26 : decode cX2_layFinal 26 = .ok (.iconst 0, 1) := by decide +kernel
theorem dX2_layFinal_27 : decode cX2_layFinal 27 = .ok (.iload_n 1, 1) := by decide +kernel
theorem dX2_layFinal_28 : decode cX2_layFinal 28 = .ok (.invokevirtual 78, 3) := by decide +kernel
theorem dX2_layFinal_31 : decode cX2_layFinal 31 = .ok (.iinc 1 1, 3) := by decide +kernel
theorem dX2_layFinal_34 : decode cX2_layFinal 34 = .ok (.goto (-28), 3) := by decide +kernel
theorem dX2_layFinal_37 : decode cX2_layFinal 37 = .ok (.aload_n 0, 1) := by decide +kernel
theorem dX2_layFinal_38 : decode cX2_layFinal 38 = .ok (.iconst 1, 1) := by decide +kernel
theorem dX2_layFinal_39 : decode cX2_layFinal 39 = .ok (.putfield 42, 3) := by decide +kernel
theorem dX2_layFinal_42 : decode cX2_layFinal 42 = .ok (.return_, 1) := by decide +kernel
set_option maxRecDepth 20000 in
theorem ggX2_rankResults_X5_clear : GoodIn wsX2_rankResults wsX5_clear := goodIn_r _ [8, 9, 56, 57] (by decide +kernel) (by decide +kernel)
set_option maxRecDepth 20000 in
theorem gX2_rankResults_X5_clear : GoodIn wsX2_rankResults (wsV RX2 49 RX5 yX5_clear wsX5_clear) := goodIn_app (goodIn_of _ (by decide +kernel)) ggX2_rankResults_X5_clear
set_option maxRecDepth 20000 in
theorem ggX2_rankResults_X5_size : GoodIn wsX2_rankResults wsX5_size := goodIn_r _ [13, 9, 56, 57] (by decide +kernel) (by decide +kernel)
set_option maxRecDepth 20000 in
theorem gX2_rankResults_X5_size : GoodIn wsX2_rankResults (wsV RX2 58 RX5 yX5_size wsX5_size) := goodIn_app (goodIn_of _ (by decide +kernel)) ggX2_rankResults_X5_size
set_option maxRecDepth 20000 in
theorem ggX2_rankResults_X5_at : GoodIn wsX2_rankResults wsX5_at := goodIn_r _ [17, 18, 19, 20, 21, 7, 22, 9, 56, 57] (by decide +kernel) (by decide +kernel)
set_option maxRecDepth 20000 in
theorem gX2_rankResults_X5_at : GoodIn wsX2_rankResults (wsV RX2 75 RX5 yX5_at wsX5_at) := goodIn_app (goodIn_of _ (by decide +kernel)) ggX2_rankResults_X5_at
set_option maxRecDepth 20000 in
theorem ggX2_rankResults_X6_get : GoodIn wsX2_rankResults wsX6_get := goodIn_r _ [27, 28, 29, 58, 59] (by decide +kernel) (by decide +kernel)
set_option maxRecDepth 20000 in
theorem gX2_rankResults_X6_get : GoodIn wsX2_rankResults (wsV RX2 69 RX6 yX6_get wsX6_get) := goodIn_app (goodIn_of _ (by decide +kernel)) ggX2_rankResults_X6_get
set_option maxRecDepth 20000 in
theorem ggX2_rankResults_X2_insertByTime : GoodIn wsX2_rankResults wsX2_insertByTime := goodIn_r _ [34, 10, 11, 12, 7, 13, 9, 14, 15, 16, 17, 18, 19, 20, 21, 22, 35, 36, 37, 33, 38, 39, 2, 23, 24, 25, 26, 27, 28, 29, 40, 41, 42, 43, 44, 45, 46, 47, 56, 57, 48, 49, 50, 51, 52, 53, 54, 55, 58, 59] (by decide +kernel) (by decide +kernel)
set_option maxRecDepth 20000 in
theorem gX2_rankResults_X2_insertByTime : GoodIn wsX2_rankResults (wsV RX2 108 RX2 yX2_insertByTime wsX2_insertByTime) := goodIn_app (goodIn_of _ (by decide +kernel)) ggX2_rankResults_X2_insertByTime
theorem dX2_rankResults_0 : decode cX2_rankResults 0 = .ok (.aload_n 0, 1) := by decide +kernel
theorem dX2_rankResults_1 : decode cX2_rankResults 1 = .ok (.getfield 36, 3) := by decide +kernel
theorem dX2_rankResults_4 : decode cX2_rankResults 4 = .ok (.invokevirtual 49, 3) := by decide +kernel
theorem dX2_rankResults_7 : decode cX2_rankResults 7 = .ok (.iconst 0, 1) := by decide +kernel
theorem dX2_rankResults_8 : decode cX2_rankResults 8 = .ok (.istore_n 1, 1) := by decide +kernel
theorem dX2_rankResults_9 : decode cX2_rankResults 9 = .ok (.iload_n 1, 1) := by decide +kernel
theorem dX2_rankResults_10 : decode cX2_rankResults 10 = .ok (.aload_n 0, 1) := by decide +kernel
theorem dX2_rankResults_11 : decode cX2_rankResults 11 = .ok (.getfield 14, 3) := by decide +kernel
theorem dX2_rankResults_14 : decode cX2_rankResults 14 = .ok (.invokevirtual 58, 3) := by decide +kernel
theorem dX2_rankResults_17 : decode cX2_rankResults 17 = .ok (.if_icmp .ge 44, 3) := by decide +kernel
theorem dX2_rankResults_20 : decode cX2_rankResults 20 = .ok (.aload_n 0, 1) := by decide +kernel
theorem dX2_rankResults_21 : decode cX2_rankResults 21 = .ok (.getfield 25, 3) := by decide +kernel
theorem dX2_rankResults_24 : decode cX2_rankResults 24 = .ok (.aload_n 0, 1) := by decide +kernel
theorem dX2_rankResults_25 : decode cX2_rankResults 25 = .ok (.getfield 14, 3) := by decide +kernel
theorem dX2_rankResults_28 : decode cX2_rankResults 28 = .ok (.iload_n 1, 1) := by decide +kernel
theorem dX2_rankResults_29 : decode cX2_rankResults 29 = .ok (.invokevirtual 75, 3) := by decide +kernel
theorem dX2_rankResults_32 : decode cX2_rankResults 32 = .ok (.invokevirtual 69, 3) := by decide +kernel
theorem dX2_rankResults_35 : decode cX2_rankResults 35 = .ok (.iconst (-1), 1) := by decide +kernel
theorem dX2_rankResults_36 : decode cX2_rankResults 36 = .ok (.if_icmp .eq 19, 3) := by decide +kernel
theorem dX2_rankResults_39 : decode cX2_rankResults 39 = .ok (.aload_n 0, 1) := by decide +kernel
theorem dX2_rankResults_40 : decode cX2_rankResults 40 = .ok (.aload_n 0, 1) := by decide +kernel
theorem dX2_rankResults_41 : decode cX2_rankResults 41 = .ok (.getfield 36, 3) := by decide +kernel
theorem dX2_rankResults_44 : decode cX2_rankResults 44 = .ok (.aload_n 0, 1) := by decide +kernel
theorem dX2_rankResults_45 : decode cX2_rankResults 45 = .ok (.getfield 14, 3) := by decide +kernel
theorem dX2_rankResults_48 : decode cX2_rankResults 48 = .ok (.iload_n 1, 1) := by decide +kernel
theorem dX2_rankResults_49 : decode cX2_rankResults 49 = .ok (.invokevirtual 75, 3) := by decide +kernel
theorem dX2_rankResults_52 : decode cX2_rankResults 52 = .ok (.invokevirtual 108, 3) := by decide +kernel
theorem dX2_rankResults_55 : decode cX2_rankResults 55 = .ok (.iinc 1 1, 3) := by decide +kernel
theorem dX2_rankResults_58 : decode cX2_rankResults 58 = .ok (.goto (-49), 3) := by decide +kernel
theorem dX2_rankResults_61 : decode cX2_rankResults 61 = .ok (.return_, 1) := by decide +kernel
set_option maxRecDepth 20000 in
theorem ggX2_crewOfResults_X5_at : GoodIn wsX2_crewOfResults wsX5_at := goodIn_r _ [6, 7, 8, 9, 10, 5, 11, 12, 21, 22] (by decide +kernel) (by decide +kernel)
set_option maxRecDepth 20000 in
theorem gX2_crewOfResults_X5_at : GoodIn wsX2_crewOfResults (wsV RX2 75 RX5 yX5_at wsX5_at) := goodIn_app (goodIn_of _ (by decide +kernel)) ggX2_crewOfResults_X5_at
theorem dX2_crewOfResults_0 : decode cX2_crewOfResults 0 = .ok (.aload_n 0, 1) := by decide +kernel
theorem dX2_crewOfResults_1 : decode cX2_crewOfResults 1 = .ok (.getfield 36, 3) := by decide +kernel
theorem dX2_crewOfResults_4 : decode cX2_crewOfResults 4 = .ok (.iload_n 1, 1) := by decide +kernel
theorem dX2_crewOfResults_5 : decode cX2_crewOfResults 5 = .ok (.invokevirtual 75, 3) := by decide +kernel
theorem dX2_crewOfResults_8 : decode cX2_crewOfResults 8 = .ok (.ireturn, 1) := by decide +kernel
set_option maxRecDepth 20000 in
theorem ggX2_quartersBehind_X5_at : GoodIn wsX2_quartersBehind wsX5_at := goodIn_r _ [8, 9, 10, 11, 12, 7, 13, 14, 30, 31] (by decide +kernel) (by decide +kernel)
set_option maxRecDepth 20000 in
theorem gX2_quartersBehind_X5_at : GoodIn wsX2_quartersBehind (wsV RX2 75 RX5 yX5_at wsX5_at) := goodIn_app (goodIn_of _ (by decide +kernel)) ggX2_quartersBehind_X5_at
set_option maxRecDepth 20000 in
theorem ggX2_quartersBehind_X6_get : GoodIn wsX2_quartersBehind wsX6_get := goodIn_r _ [19, 20, 21, 32, 33] (by decide +kernel) (by decide +kernel)
set_option maxRecDepth 20000 in
theorem gX2_quartersBehind_X6_get : GoodIn wsX2_quartersBehind (wsV RX2 69 RX6 yX6_get wsX6_get) := goodIn_app (goodIn_of _ (by decide +kernel)) ggX2_quartersBehind_X6_get
theorem dX2_quartersBehind_0 : decode cX2_quartersBehind 0 = .ok (.aload_n 0, 1) := by decide +kernel
theorem dX2_quartersBehind_1 : decode cX2_quartersBehind 1 = .ok (.getfield 33, 3) := by decide +kernel
theorem dX2_quartersBehind_4 : decode cX2_quartersBehind 4 = .ok (.aload_n 0, 1) := by decide +kernel
theorem dX2_quartersBehind_5 : decode cX2_quartersBehind 5 = .ok (.getfield 36, 3) := by decide +kernel
theorem dX2_quartersBehind_8 : decode cX2_quartersBehind 8 = .ok (.iload_n 1, 1) := by decide +kernel
theorem dX2_quartersBehind_9 : decode cX2_quartersBehind 9 = .ok (.iconst 1, 1) := by decide +kernel
theorem dX2_quartersBehind_10 : decode cX2_quartersBehind 10 = .ok (.isub, 1) := by decide +kernel
theorem dX2_quartersBehind_11 : decode cX2_quartersBehind 11 = .ok (.invokevirtual 75, 3) := by decide +kernel
theorem dX2_quartersBehind_14 : decode cX2_quartersBehind 14 = .ok (.invokevirtual 69, 3) := by decide +kernel
theorem dX2_quartersBehind_17 : decode cX2_quartersBehind 17 = .ok (.istore_n 2, 1) := by decide +kernel
theorem dX2_quartersBehind_18 : decode cX2_quartersBehind 18 = .ok (.aload_n 0, 1) := by decide +kernel
theorem dX2_quartersBehind_19 : decode cX2_quartersBehind 19 = .ok (.getfield 33, 3) := by decide +kernel
theorem dX2_quartersBehind_22 : decode cX2_quartersBehind 22 = .ok (.aload_n 0, 1) := by decide +kernel
theorem dX2_quartersBehind_23 : decode cX2_quartersBehind 23 = .ok (.getfield 36, 3) := by decide +kernel
theorem dX2_quartersBehind_26 : decode cX2_quartersBehind 26 = .ok (.iload_n 1, 1) := by decide +kernel
theorem dX2_quartersBehind_27 : decode cX2_quartersBehind 27 = .ok (.invokevirtual 75, 3) := by decide +kernel
theorem dX2_quartersBehind_30 : decode cX2_quartersBehind 30 = .ok (.invokevirtual 69, 3) := by decide +kernel
theorem dX2_quartersBehind_33 : decode cX2_quartersBehind 33 = .ok (.istore_n 3, 1) := by decide +kernel
theorem dX2_quartersBehind_34 : decode cX2_quartersBehind 34 = .ok (.iload_n 2, 1) := by decide +kernel
theorem dX2_quartersBehind_35 : decode cX2_quartersBehind 35 = .ok (.ldc 32, 2) := by decide +kernel
theorem dX2_quartersBehind_37 : decode cX2_quartersBehind 37 = .ok (.if_icmp .eq 9, 3) := by decide +kernel
theorem dX2_quartersBehind_40 : decode cX2_quartersBehind 40 = .ok (.iload_n 3, 1) := by decide +kernel
theorem dX2_quartersBehind_41 : decode cX2_quartersBehind 41 = .ok (.ldc 32, 2) := by decide +kernel
theorem dX2_quartersBehind_43 : decode cX2_quartersBehind 43 = .ok (.if_icmp .ne 5, 3) := by decide +kernel
theorem dX2_quartersBehind_46 : decode cX2_quartersBehind 46 = .ok (.iconst (-1), 1) := by decide +kernel
theorem dX2_quartersBehind_47 : decode cX2_quartersBehind 47 = .ok (.ireturn, 1) := by decide +kernel
theorem dX2_quartersBehind_48 : decode cX2_quartersBehind 48 = .ok (.iload_n 3, 1) := by decide +kernel
theorem dX2_quartersBehind_49 : decode cX2_quartersBehind 49 = .ok (.iload_n 2, 1) := by decide +kernel
theorem dX2_quartersBehind_50 : decode cX2_quartersBehind 50 = .ok (.isub, 1) := by decide +kernel
theorem dX2_quartersBehind_51 : decode cX2_quartersBehind 51 = .ok (.iconst 4, 1) := by decide +kernel
theorem dX2_quartersBehind_52 : decode cX2_quartersBehind 52 = .ok (.imul, 1) := by decide +kernel
theorem dX2_quartersBehind_53 : decode cX2_quartersBehind 53 = .ok (.sipush 2500, 3) := by decide +kernel
theorem dX2_quartersBehind_56 : decode cX2_quartersBehind 56 = .ok (.idiv, 1) := by decide +kernel
theorem dX2_quartersBehind_57 : decode cX2_quartersBehind 57 = .ok (.ireturn, 1) := by decide +kernel
set_option maxRecDepth 20000 in
theorem ggX3_init_X5_init : GoodIn wsX3_init wsX5_init := goodIn_r _ [15, 16, 2, 3, 17, 18, 19, 20, 21, 22, 23, 31, 32] (by decide +kernel) (by decide +kernel)
set_option maxRecDepth 20000 in
theorem gX3_init_X5_init : GoodIn wsX3_init (wsX5_init) := ggX3_init_X5_init
set_option maxRecDepth 20000 in
theorem ggX3_init_X6_init : GoodIn wsX3_init wsX6_init := goodIn_r _ [26, 27, 2, 3, 28, 18, 19, 20, 21, 29, 30, 36, 37] (by decide +kernel) (by decide +kernel)
set_option maxRecDepth 20000 in
theorem gX3_init_X6_init : GoodIn wsX3_init (wsX6_init) := ggX3_init_X6_init
theorem dX3_init_0 : decode cX3_init 0 = .ok (.aload_n 0, 1) := by decide +kernel
theorem dX3_init_1 : decode cX3_init 1 = .ok (.invokespecial 3, 3) := by decide +kernel
theorem dX3_init_4 : decode cX3_init 4 = .ok (.aload_n 0, 1) := by decide +kernel
theorem dX3_init_5 : decode cX3_init 5 = .ok (.new 9, 3) := by decide +kernel
theorem dX3_init_8 : decode cX3_init 8 = .ok (.dup, 1) := by decide +kernel
theorem dX3_init_9 : decode cX3_init 9 = .ok (.bipush 24, 2) := by decide +kernel
theorem dX3_init_11 : decode cX3_init 11 = .ok (.invokespecial 11, 3) := by decide +kernel
theorem dX3_init_14 : decode cX3_init 14 = .ok (.putfield 14, 3) := by decide +kernel
theorem dX3_init_17 : decode cX3_init 17 = .ok (.aload_n 0, 1) := by decide +kernel
theorem dX3_init_18 : decode cX3_init 18 = .ok (.new 20, 3) := by decide +kernel
theorem dX3_init_21 : decode cX3_init 21 = .ok (.dup, 1) := by decide +kernel
theorem dX3_init_22 : decode cX3_init 22 = .ok (.bipush 24, 2) := by decide +kernel
theorem dX3_init_24 : decode cX3_init 24 = .ok (.iconst 0, 1) := by decide +kernel
theorem dX3_init_25 : decode cX3_init 25 = .ok (.invokespecial 22, 3) := by decide +kernel
theorem dX3_init_28 : decode cX3_init 28 = .ok (.putfield 25, 3) := by decide +kernel
theorem dX3_init_31 : decode cX3_init 31 = .ok (.aload_n 0, 1) := by decide +kernel
theorem dX3_init_32 : decode cX3_init 32 = .ok (.new 20, 3) := by decide +kernel
theorem dX3_init_35 : decode cX3_init 35 = .ok (.dup, 1) := by decide +kernel
theorem dX3_init_36 : decode cX3_init 36 = .ok (.bipush 24, 2) := by decide +kernel
theorem dX3_init_38 : decode cX3_init 38 = .ok (.iconst (-1), 1) := by decide +kernel
theorem dX3_init_39 : decode cX3_init 39 = .ok (.invokespecial 22, 3) := by decide +kernel
theorem dX3_init_42 : decode cX3_init 42 = .ok (.putfield 29, 3) := by decide +kernel
theorem dX3_init_45 : decode cX3_init 45 = .ok (.return_, 1) := by decide +kernel
set_option maxRecDepth 20000 in
theorem ggX3_lineUp_X3_close : GoodIn wsX3_lineUp wsX3_close := goodIn_r _ [6, 1, 7, 8, 9, 10, 11, 12, 13, 14, 15, 16, 17, 18, 19, 20, 21, 43, 44, 45, 46, 47, 48, 49] (by decide +kernel) (by decide +kernel)
set_option maxRecDepth 20000 in
theorem gX3_lineUp_X3_close : GoodIn wsX3_lineUp (wsV RX3 32 RX3 yX3_close wsX3_close) := goodIn_app (goodIn_of _ (by decide +kernel)) ggX3_lineUp_X3_close
set_option maxRecDepth 20000 in
theorem ggX3_lineUp_X5_size : GoodIn wsX3_lineUp wsX5_size := goodIn_r _ [25, 14, 46, 47] (by decide +kernel) (by decide +kernel)
set_option maxRecDepth 20000 in
theorem gX3_lineUp_X5_size : GoodIn wsX3_lineUp (wsV RX3 35 RX5 yX5_size wsX5_size) := goodIn_app (goodIn_of _ (by decide +kernel)) ggX3_lineUp_X5_size
set_option maxRecDepth 20000 in
theorem ggX3_lineUp_X5_at : GoodIn wsX3_lineUp wsX5_at := goodIn_r _ [29, 30, 31, 32, 33, 12, 34, 14, 46, 47] (by decide +kernel) (by decide +kernel)
set_option maxRecDepth 20000 in
theorem gX3_lineUp_X5_at : GoodIn wsX3_lineUp (wsV RX3 39 RX5 yX5_at wsX5_at) := goodIn_app (goodIn_of _ (by decide +kernel)) ggX3_lineUp_X5_at
set_option maxRecDepth 20000 in
theorem ggX3_lineUp_X5_append : GoodIn wsX3_lineUp wsX5_append := goodIn_r _ [38, 14, 39, 40, 41, 12, 42, 30, 46, 47] (by decide +kernel) (by decide +kernel)
set_option maxRecDepth 20000 in
theorem gX3_lineUp_X5_append : GoodIn wsX3_lineUp (wsV RX3 43 RX5 yX5_append wsX5_append) := goodIn_app (goodIn_of _ (by decide +kernel)) ggX3_lineUp_X5_append
theorem dX3_lineUp_0 : decode cX3_lineUp 0 = .ok (.aload_n 0, 1) := by decide +kernel
theorem dX3_lineUp_1 : decode cX3_lineUp 1 = .ok (.invokevirtual 32, 3) := by decide +kernel
theorem dX3_lineUp_4 : decode cX3_lineUp 4 = .ok (.iload_n 2, 1) := by decide +kernel
theorem dX3_lineUp_5 : decode cX3_lineUp 5 = .ok (.istore 4, 2) := by decide +kernel
theorem dX3_lineUp_7 : decode cX3_lineUp 7 = .ok (.iload 4, 2) := by decide +kernel
theorem dX3_lineUp_9 : decode cX3_lineUp 9 = .ok (.iload_n 2, 1) := by decide +kernel
theorem dX3_lineUp_10 : decode cX3_lineUp 10 = .ok (.iload_n 3, 1) := by decide +kernel
theorem dX3_lineUp_11 : decode cX3_lineUp 11 = .ok (.iadd, 1) := by decide +kernel
theorem dX3_lineUp_12 : decode cX3_lineUp 12 = .ok (.if_icmp .ge 31, 3) := by decide +kernel
theorem dX3_lineUp_15 : decode cX3_lineUp 15 = .ok (.iload 4, 2) := by decide +kernel
theorem dX3_lineUp_17 : decode cX3_lineUp 17 = .ok (.aload_n 1, 1) := by decide +kernel
theorem dX3_lineUp_18 : decode cX3_lineUp 18 = .ok (.invokevirtual 35, 3) := by decide +kernel
theorem dX3_lineUp_21 : decode cX3_lineUp 21 = .ok (.if_icmp .ge 22, 3) := by decide +kernel
theorem dX3_lineUp_24 : decode cX3_lineUp 24 = .ok (.aload_n 0, 1) := by decide +kernel
theorem dX3_lineUp_25 : decode cX3_lineUp 25 = .ok (.getfield 14, 3) := by decide +kernel
theorem dX3_lineUp_28 : decode cX3_lineUp 28 = .ok (.aload_n 1, 1) := by decide +kernel
theorem dX3_lineUp_29 : decode cX3_lineUp 29 = .ok (.iload 4, 2) := by decide +kernel
theorem dX3_lineUp_31 : decode cX3_lineUp 31 = .ok (.invokevirtual 39, 3) := by decide +kernel
theorem dX3_lineUp_34 : decode cX3_lineUp 34 = .ok (.invokevirtual 43, 3) := by decide +kernel
theorem dX3_lineUp_37 : decode cX3_lineUp 37 = .ok (.iinc 4 1, 3) := by decide +kernel
theorem dX3_lineUp_40 : decode cX3_lineUp 40 = .ok (.goto (-33), 3) := by decide +kernel
theorem dX3_lineUp_43 : decode cX3_lineUp 43 = .ok (.return_, 1) := by decide +kernel
set_option maxRecDepth 20000 in
theorem ggX3_close_X5_clear : GoodIn wsX3_close wsX5_clear := goodIn_r _ [8, 9, 20, 21] (by decide +kernel) (by decide +kernel)
set_option maxRecDepth 20000 in
theorem gX3_close_X5_clear : GoodIn wsX3_close (wsV RX3 46 RX5 yX5_clear wsX5_clear) := goodIn_app (goodIn_of _ (by decide +kernel)) ggX3_close_X5_clear
set_option maxRecDepth 20000 in
theorem ggX3_close_X6_wipe : GoodIn wsX3_close wsX6_wipe := goodIn_r _ [14, 15, 16, 22, 23] (by decide +kernel) (by decide +kernel)
set_option maxRecDepth 20000 in
theorem gX3_close_X6_wipe : GoodIn wsX3_close (wsV RX3 49 RX6 yX6_wipe wsX6_wipe) := goodIn_app (goodIn_of _ (by decide +kernel)) ggX3_close_X6_wipe
theorem dX3_close_0 : decode cX3_close 0 = .ok (.aload_n 0, 1) := by decide +kernel
theorem dX3_close_1 : decode cX3_close 1 = .ok (.getfield 14, 3) := by decide +kernel
theorem dX3_close_4 : decode cX3_close 4 = .ok (.invokevirtual 46, 3) := by decide +kernel
theorem dX3_close_7 : decode cX3_close 7 = .ok (.aload_n 0, 1) := by decide +kernel
theorem dX3_close_8 : decode cX3_close 8 = .ok (.getfield 25, 3) := by decide +kernel
theorem dX3_close_11 : decode cX3_close 11 = .ok (.invokevirtual 49, 3) := by decide +kernel
theorem dX3_close_14 : decode cX3_close 14 = .ok (.aload_n 0, 1) := by decide +kernel
theorem dX3_close_15 : decode cX3_close 15 = .ok (.getfield 29, 3) := by decide +kernel
theorem dX3_close_18 : decode cX3_close 18 = .ok (.invokevirtual 49, 3) := by decide +kernel
theorem dX3_close_21 : decode cX3_close 21 = .ok (.return_, 1) := by decide +kernel
set_option maxRecDepth 20000 in
theorem ggX3_size_X5_size : GoodIn wsX3_size wsX5_size := goodIn_r _ [6, 7, 11, 12] (by decide +kernel) (by decide +kernel)
set_option maxRecDepth 20000 in
theorem gX3_size_X5_size : GoodIn wsX3_size (wsV RX3 35 RX5 yX5_size wsX5_size) := goodIn_app (goodIn_of _ (by decide +kernel)) ggX3_size_X5_size
theorem dX3_size_0 : decode cX3_size 0 = .ok (.aload_n 0, 1) := by decide +kernel
theorem dX3_size_1 : decode cX3_size 1 = .ok (.getfield 14, 3) := by decide +kernel
theorem dX3_size_4 : decode cX3_size 4 = .ok (.invokevirtual 35, 3) := by decide +kernel
theorem dX3_size_7 : decode cX3_size 7 = .ok (.ireturn, 1) := by decide +kernel
set_option maxRecDepth 20000 in
theorem ggX3_starter_X5_at : GoodIn wsX3_starter wsX5_at := goodIn_r _ [6, 7, 8, 9, 10, 5, 11, 12, 16, 17] (by decide +kernel) (by decide +kernel)
set_option maxRecDepth 20000 in
theorem gX3_starter_X5_at : GoodIn wsX3_starter (wsV RX3 39 RX5 yX5_at wsX5_at) := goodIn_app (goodIn_of _ (by decide +kernel)) ggX3_starter_X5_at
theorem dX3_starter_0 : decode cX3_starter 0 = .ok (.aload_n 0, 1) := by decide +kernel
theorem dX3_starter_1 : decode cX3_starter 1 = .ok (.getfield 14, 3) := by decide +kernel
theorem dX3_starter_4 : decode cX3_starter 4 = .ok (.iload_n 1, 1) := by decide +kernel
theorem dX3_starter_5 : decode cX3_starter 5 = .ok (.invokevirtual 39, 3) := by decide +kernel
theorem dX3_starter_8 : decode cX3_starter 8 = .ok (.ireturn, 1) := by decide +kernel
set_option maxRecDepth 20000 in
theorem ggX3_stillRows_X6_get : GoodIn wsX3_stillRows wsX6_get := goodIn_r _ [6, 7, 8, 12, 13] (by decide +kernel) (by decide +kernel)
set_option maxRecDepth 20000 in
theorem gX3_stillRows_X6_get : GoodIn wsX3_stillRows (wsV RX3 52 RX6 yX6_get wsX6_get) := goodIn_app (goodIn_of _ (by decide +kernel)) ggX3_stillRows_X6_get
theorem dX3_stillRows_0 : decode cX3_stillRows 0 = .ok (.iload_n 1, 1) := by decide +kernel
theorem dX3_stillRows_1 : decode cX3_stillRows 1 = .ok (.iconst (-1), 1) := by decide +kernel
theorem dX3_stillRows_2 : decode cX3_stillRows 2 = .ok (.if_icmp .eq 18, 3) := by decide +kernel
theorem dX3_stillRows_5 : decode cX3_stillRows 5 = .ok (.aload_n 0, 1) := by decide +kernel
theorem dX3_stillRows_6 : decode cX3_stillRows 6 = .ok (.getfield 25, 3) := by decide +kernel
theorem dX3_stillRows_9 : decode cX3_stillRows 9 = .ok (.iload_n 1, 1) := by decide +kernel
theorem dX3_stillRows_10 : decode cX3_stillRows 10 = .ok (.invokevirtual 52, 3) := by decide +kernel
theorem dX3_stillRows_13 : decode cX3_stillRows 13 = .ok (.ifCond .ne 7, 3) := by decide +kernel
theorem dX3_stillRows_16 : decode cX3_stillRows 16 = .ok (.iconst 1, 1) := by decide +kernel
theorem dX3_stillRows_17 : decode cX3_stillRows 17 = .ok (.goto 4, 3) := by decide +kernel
theorem dX3_stillRows_20 : decode cX3_stillRows 20 = .ok (.iconst 0, 1) := by decide +kernel
theorem dX3_stillRows_21 : decode cX3_stillRows 21 = .ok (.ireturn, 1) := by decide +kernel
set_option maxRecDepth 20000 in
theorem ggX3_nearestAhead_X5_indexOf : GoodIn wsX3_nearestAhead wsX5_indexOf := goodIn_r _ [6, 7, 8, 33, 34] (by decide +kernel) (by decide +kernel)
set_option maxRecDepth 20000 in
theorem gX3_nearestAhead_X5_indexOf : GoodIn wsX3_nearestAhead (wsV RX3 55 RX5 yX5_indexOf wsX5_indexOf) := goodIn_app (goodIn_of _ (by decide +kernel)) ggX3_nearestAhead_X5_indexOf
set_option maxRecDepth 20000 in
theorem ggX3_nearestAhead_X3_stillRows : GoodIn wsX3_nearestAhead wsX3_stillRows := goodIn_r _ [13, 14, 15, 16, 17, 18, 19, 20, 21, 30, 31, 32, 35, 36] (by decide +kernel) (by decide +kernel)
set_option maxRecDepth 20000 in
theorem gX3_nearestAhead_X3_stillRows : GoodIn wsX3_nearestAhead (wsV RX3 58 RX3 yX3_stillRows wsX3_stillRows) := goodIn_app (goodIn_of _ (by decide +kernel)) ggX3_nearestAhead_X3_stillRows
set_option maxRecDepth 20000 in
theorem ggX3_nearestAhead_X5_at : GoodIn wsX3_nearestAhead wsX5_at := goodIn_r _ [25, 8, 26, 27, 28, 5, 29, 7, 33, 34] (by decide +kernel) (by decide +kernel)
set_option maxRecDepth 20000 in
theorem gX3_nearestAhead_X5_at : GoodIn wsX3_nearestAhead (wsV RX3 39 RX5 yX5_at wsX5_at) := goodIn_app (goodIn_of _ (by decide +kernel)) ggX3_nearestAhead_X5_at
theorem dX3_nearestAhead_0 : decode cX3_nearestAhead 0 = .ok (.aload_n 0, 1) := by decide +kernel
theorem dX3_nearestAhead_1 : decode cX3_nearestAhead 1 = .ok (.getfield 14, 3) := by decide +kernel
theorem dX3_nearestAhead_4 : decode cX3_nearestAhead 4 = .ok (.iload_n 1, 1) := by decide +kernel
theorem dX3_nearestAhead_5 : decode cX3_nearestAhead 5 = .ok (.invokevirtual 55, 3) := by decide +kernel
theorem dX3_nearestAhead_8 : decode cX3_nearestAhead 8 = .ok (.istore_n 2, 1) := by decide +kernel
theorem dX3_nearestAhead_9 : decode cX3_nearestAhead 9 = .ok (.aload_n 0, 1) := by decide +kernel
theorem dX3_nearestAhead_10 : decode cX3_nearestAhead 10 = .ok (.iload_n 2, 1) := by decide +kernel
theorem dX3_nearestAhead_11 : decode cX3_nearestAhead 11 = .ok (.invokevirtual 58, 3) := by decide +kernel
theorem dX3_nearestAhead_14 : decode cX3_nearestAhead 14 = .ok (.ifCond .ne 5, 3) := by decide +kernel
theorem dX3_nearestAhead_17 : decode cX3_nearestAhead 17 = .ok (.iconst (-1), 1) := by decide +kernel
theorem dX3_nearestAhead_18 : decode cX3_nearestAhead 18 = .ok (.ireturn, 1) := by decide +kernel
theorem dX3_nearestAhead_19 : decode cX3_nearestAhead 19 = .ok (.iload_n 2, 1) := by decide +kernel
theorem dX3_nearestAhead_20 : decode cX3_nearestAhead 20 = .ok (.iconst 1, 1) := by decide +kernel
theorem dX3_nearestAhead_21 : decode cX3_nearestAhead 21 = .ok (.isub, 1) := by decide +kernel
theorem dX3_nearestAhead_22 : decode cX3_nearestAhead 22 = .ok (.istore_n 3, 1) := by decide +kernel
theorem dX3_nearestAhead_23 : decode cX3_nearestAhead 23 = .ok (.iload_n 3, 1) := by decide +kernel
theorem dX3_nearestAhead_24 : decode cX3_nearestAhead 24 = .ok (.ifCond .lt 26, 3) := by decide +kernel
theorem dX3_nearestAhead_27 : decode cX3_nearestAhead 27 = .ok (.aload_n 0, 1) := by decide +kernel
theorem dX3_nearestAhead_28 : decode cX3_nearestAhead 28 = .ok (.iload_n 3, 1) := by decide +kernel
theorem dX3_nearestAhead_29 : decode cX3_nearestAhead 29 = .ok (.invokevirtual 58, 3) := by decide +kernel
theorem dX3_nearestAhead_32 : decode cX3_nearestAhead 32 = .ok (.ifCond .eq 12, 3) := by decide +kernel
theorem dX3_nearestAhead_35 : decode cX3_nearestAhead 35 = .ok (.aload_n 0, 1) := by decide +kernel
theorem dX3_nearestAhead_36 : decode cX3_nearestAhead 36 = .ok (.getfield 14, 3) := by decide +kernel
theorem dX3_nearestAhead_39 : decode cX3_nearestAhead 39 = .ok (.iload_n 3, 1) := by decide +kernel
theorem dX3_nearestAhead_40 : decode cX3_nearestAhead 40 = .ok (.invokevirtual 39, 3) := by decide +kernel
theorem dX3_nearestAhead_43 : decode cX3_nearestAhead 43 = .ok (.ireturn, 1) := by decide +kernel
theorem dX3_nearestAhead_44 : decode cX3_nearestAhead 44 = .ok (.iinc 3 (-1), 3) := by decide +kernel
theorem dX3_nearestAhead_47 : decode cX3_nearestAhead 47 = .ok (.goto (-24), 3) := by decide +kernel
theorem dX3_nearestAhead_50 : decode cX3_nearestAhead 50 = .ok (.iconst (-1), 1) := by decide +kernel
theorem dX3_nearestAhead_51 : decode cX3_nearestAhead 51 = .ok (.ireturn, 1) := by decide +kernel
set_option maxRecDepth 20000 in
theorem ggX3_bump_X5_indexOf : GoodIn wsX3_bump wsX5_indexOf := goodIn_r _ [8, 9, 10, 20, 21] (by decide +kernel) (by decide +kernel)
set_option maxRecDepth 20000 in
theorem gX3_bump_X5_indexOf : GoodIn wsX3_bump (wsV RX3 55 RX5 yX5_indexOf wsX5_indexOf) := goodIn_app (goodIn_of _ (by decide +kernel)) ggX3_bump_X5_indexOf
set_option maxRecDepth 20000 in
theorem ggX3_bump_X6_put : GoodIn wsX3_bump wsX6_put := goodIn_r _ [15, 16, 22, 23] (by decide +kernel) (by decide +kernel)
set_option maxRecDepth 20000 in
theorem gX3_bump_X6_put : GoodIn wsX3_bump (wsV RX3 62 RX6 yX6_put wsX6_put) := goodIn_app (goodIn_of _ (by decide +kernel)) ggX3_bump_X6_put
theorem dX3_bump_0 : decode cX3_bump 0 = .ok (.aload_n 0, 1) := by decide +kernel
theorem dX3_bump_1 : decode cX3_bump 1 = .ok (.getfield 14, 3) := by decide +kernel
theorem dX3_bump_4 : decode cX3_bump 4 = .ok (.iload_n 1, 1) := by decide +kernel
theorem dX3_bump_5 : decode cX3_bump 5 = .ok (.invokevirtual 55, 3) := by decide +kernel
theorem dX3_bump_8 : decode cX3_bump 8 = .ok (.istore_n 3, 1) := by decide +kernel
theorem dX3_bump_9 : decode cX3_bump 9 = .ok (.aload_n 0, 1) := by decide +kernel
theorem dX3_bump_10 : decode cX3_bump 10 = .ok (.getfield 14, 3) := by decide +kernel
theorem dX3_bump_13 : decode cX3_bump 13 = .ok (.iload_n 2, 1) := by decide +kernel
theorem dX3_bump_14 : decode cX3_bump 14 = .ok (.invokevirtual 55, 3) := by decide +kernel
theorem dX3_bump_17 : decode cX3_bump 17 = .ok (.istore 4, 2) := by decide +kernel
theorem dX3_bump_19 : decode cX3_bump 19 = .ok (.aload_n 0, 1) := by decide +kernel
theorem dX3_bump_20 : decode cX3_bump 20 = .ok (.getfield 25, 3) := by decide +kernel
theorem dX3_bump_23 : decode cX3_bump 23 = .ok (.iload_n 3, 1) := by decide +kernel
theorem dX3_bump_24 : decode cX3_bump 24 = .ok (.iconst 1, 1) := by decide +kernel
theorem dX3_bump_25 : decode cX3_bump 25 = .ok (.invokevirtual 62, 3) := by decide +kernel
theorem dX3_bump_28 : decode cX3_bump 28 = .ok (.aload_n 0, 1) := by decide +kernel
theorem dX3_bump_29 : decode cX3_bump 29 = .ok (.getfield 25, 3) := by decide +kernel
theorem dX3_bump_32 : decode cX3_bump 32 = .ok (.iload 4, 2) := by decide +kernel
theorem dX3_bump_34 : decode cX3_bump 34 = .ok (.iconst 1, 1) := by decide +kernel
theorem dX3_bump_35 : decode cX3_bump 35 = .ok (.invokevirtual 62, 3) := by decide +kernel
theorem dX3_bump_38 : decode cX3_bump 38 = .ok (.aload_n 0, 1) := by decide +kernel
theorem dX3_bump_39 : decode cX3_bump 39 = .ok (.getfield 29, 3) := by decide +kernel
theorem dX3_bump_42 : decode cX3_bump 42 = .ok (.iload_n 3, 1) := by decide +kernel
theorem dX3_bump_43 : decode cX3_bump 43 = .ok (.iload_n 2, 1) := by decide +kernel
theorem dX3_bump_44 : decode cX3_bump 44 = .ok (.invokevirtual 62, 3) := by decide +kernel
theorem dX3_bump_47 : decode cX3_bump 47 = .ok (.return_, 1) := by decide +kernel
set_option maxRecDepth 20000 in
theorem ggX3_beganRightAhead_X5_indexOf : GoodIn wsX3_beganRightAhead wsX5_indexOf := goodIn_r _ [6, 7, 8, 12, 13] (by decide +kernel) (by decide +kernel)
set_option maxRecDepth 20000 in
theorem gX3_beganRightAhead_X5_indexOf : GoodIn wsX3_beganRightAhead (wsV RX3 55 RX5 yX5_indexOf wsX5_indexOf) := goodIn_app (goodIn_of _ (by decide +kernel)) ggX3_beganRightAhead_X5_indexOf
theorem dX3_beganRightAhead_0 : decode cX3_beganRightAhead 0 = .ok (.aload_n 0, 1) := by decide +kernel
theorem dX3_beganRightAhead_1 : decode cX3_beganRightAhead 1 = .ok (.getfield 14, 3) := by decide +kernel
theorem dX3_beganRightAhead_4 : decode cX3_beganRightAhead 4 = .ok (.iload_n 1, 1) := by decide +kernel
theorem dX3_beganRightAhead_5 : decode cX3_beganRightAhead 5 = .ok (.invokevirtual 55, 3) := by decide +kernel
theorem dX3_beganRightAhead_8 : decode cX3_beganRightAhead 8 = .ok (.iconst 1, 1) := by decide +kernel
theorem dX3_beganRightAhead_9 : decode cX3_beganRightAhead 9 = .ok (.iadd, 1) := by decide +kernel
theorem dX3_beganRightAhead_10 : decode cX3_beganRightAhead 10 = .ok (.aload_n 0, 1) := by decide +kernel
theorem dX3_beganRightAhead_11 : decode cX3_beganRightAhead 11 = .ok (.getfield 14, 3) := by decide +kernel
theorem dX3_beganRightAhead_14 : decode cX3_beganRightAhead 14 = .ok (.iload_n 2, 1) := by decide +kernel
theorem dX3_beganRightAhead_15 : decode cX3_beganRightAhead 15 = .ok (.invokevirtual 55, 3) := by decide +kernel
theorem dX3_beganRightAhead_18 : decode cX3_beganRightAhead 18 = .ok (.if_icmp .ne 7, 3) := by decide +kernel
theorem dX3_beganRightAhead_21 : decode cX3_beganRightAhead 21 = .ok (.iconst 1, 1) := by decide +kernel
theorem dX3_beganRightAhead_22 : decode cX3_beganRightAhead 22 = .ok (.goto 4, 3) := by decide +kernel
theorem dX3_beganRightAhead_25 : decode cX3_beganRightAhead 25 = .ok (.iconst 0, 1) := by decide +kernel
theorem dX3_beganRightAhead_26 : decode cX3_beganRightAhead 26 = .ok (.ireturn, 1) := by decide +kernel
set_option maxRecDepth 20000 in
theorem ggX3_preyOf_X6_get : GoodIn wsX3_preyOf wsX6_get := goodIn_r _ [6, 7, 8, 12, 13] (by decide +kernel) (by decide +kernel)
set_option maxRecDepth 20000 in
theorem gX3_preyOf_X6_get : GoodIn wsX3_preyOf (wsV RX3 52 RX6 yX6_get wsX6_get) := goodIn_app (goodIn_of _ (by decide +kernel)) ggX3_preyOf_X6_get
theorem dX3_preyOf_0 : decode cX3_preyOf 0 = .ok (.aload_n 0, 1) := by decide +kernel
theorem dX3_preyOf_1 : decode cX3_preyOf 1 = .ok (.getfield 29, 3) := by decide +kernel
theorem dX3_preyOf_4 : decode cX3_preyOf 4 = .ok (.iload_n 1, 1) := by decide +kernel
theorem dX3_preyOf_5 : decode cX3_preyOf 5 = .ok (.invokevirtual 52, 3) := by decide +kernel
theorem dX3_preyOf_8 : decode cX3_preyOf 8 = .ok (.ireturn, 1) := by decide +kernel
set_option maxRecDepth 20000 in
theorem ggX4_init_X5_init : GoodIn wsX4_init wsX5_init := goodIn_r _ [32, 33, 2, 3, 34, 35, 36, 37, 38, 39, 40, 80, 81] (by decide +kernel) (by decide +kernel)
set_option maxRecDepth 20000 in
theorem gX4_init_X5_init : GoodIn wsX4_init (wsX5_init) := ggX4_init_X5_init
set_option maxRecDepth 20000 in
theorem ggX4_init_X1_init : GoodIn wsX4_init wsX1_init := goodIn_r _ [43, 44, 2, 3, 45, 5, 6, 46, 47, 48, 49, 50, 31, 32, 33, 34, 35, 36, 37, 38, 39, 40, 80, 81, 93, 94, 95, 96] (by decide +kernel) (by decide +kernel)
set_option maxRecDepth 20000 in
theorem gX4_init_X1_init : GoodIn wsX4_init (wsX1_init) := ggX4_init_X1_init
set_option maxRecDepth 20000 in
theorem ggX4_init_X3_init : GoodIn wsX4_init wsX3_init := goodIn_r _ [53, 54, 2, 3, 55, 5, 6, 56, 57, 21, 22, 58, 59, 60, 31, 32, 33, 34, 35, 36, 37, 38, 39, 40, 61, 62, 63, 64, 65, 66, 67, 80, 81, 97, 98, 99, 105, 106] (by decide +kernel) (by decide +kernel)
set_option maxRecDepth 20000 in
theorem gX4_init_X3_init : GoodIn wsX4_init (wsX3_init) := ggX4_init_X3_init
set_option maxRecDepth 20000 in
theorem ggX4_init_X7_init : GoodIn wsX4_init wsX7_init := goodIn_r _ [70, 71, 2, 3, 72, 21, 22, 73, 74, 75, 76, 77, 78, 62, 63, 64, 65, 35, 36, 37, 38, 66, 67, 105, 106, 100, 101, 102, 103, 104] (by decide +kernel) (by decide +kernel)
set_option maxRecDepth 20000 in
theorem gX4_init_X7_init : GoodIn wsX4_init (wsX7_init) := ggX4_init_X7_init
set_option maxRecDepth 20000 in
theorem ggX4_init_X6_init : GoodIn wsX4_init wsX6_init := goodIn_r _ [63, 64, 2, 3, 65, 35, 36, 37, 38, 66, 67, 105, 106] (by decide +kernel) (by decide +kernel)
set_option maxRecDepth 20000 in
theorem gX4_init_X6_init : GoodIn wsX4_init (wsX6_init) := ggX4_init_X6_init
theorem dX4_init_0 : decode cX4_init 0 = .ok (.aload_n 0, 1) := by decide +kernel
theorem dX4_init_1 : decode cX4_init 1 = .ok (.invokespecial 3, 3) := by decide +kernel
theorem dX4_init_4 : decode cX4_init 4 = .ok (.aload_n 0, 1) := by decide +kernel
theorem dX4_init_5 : decode cX4_init 5 = .ok (.new 9, 3) := by decide +kernel
theorem dX4_init_8 : decode cX4_init 8 = .ok (.dup, 1) := by decide +kernel
theorem dX4_init_9 : decode cX4_init 9 = .ok (.bipush 24, 2) := by decide +kernel
theorem dX4_init_11 : decode cX4_init 11 = .ok (.invokespecial 11, 3) := by decide +kernel
theorem dX4_init_14 : decode cX4_init 14 = .ok (.putfield 14, 3) := by decide +kernel
theorem dX4_init_17 : decode cX4_init 17 = .ok (.aload_n 0, 1) := by decide +kernel
theorem dX4_init_18 : decode cX4_init 18 = .ok (.new 20, 3) := by decide +kernel
theorem dX4_init_21 : decode cX4_init 21 = .ok (.dup, 1) := by decide +kernel
theorem dX4_init_22 : decode cX4_init 22 = .ok (.invokespecial 22, 3) := by decide +kernel
theorem dX4_init_25 : decode cX4_init 25 = .ok (.putfield 23, 3) := by decide +kernel
theorem dX4_init_28 : decode cX4_init 28 = .ok (.aload_n 0, 1) := by decide +kernel
theorem dX4_init_29 : decode cX4_init 29 = .ok (.new 27, 3) := by decide +kernel
theorem dX4_init_32 : decode cX4_init 32 = .ok (.dup, 1) := by decide +kernel
theorem dX4_init_33 : decode cX4_init 33 = .ok (.invokespecial 29, 3) := by decide +kernel
theorem dX4_init_36 : decode cX4_init 36 = .ok (.putfield 30, 3) := by decide +kernel
theorem dX4_init_39 : decode cX4_init 39 = .ok (.aload_n 0, 1) := by decide +kernel
theorem dX4_init_40 : decode cX4_init 40 = .ok (.new 34, 3) := by decide +kernel
theorem dX4_init_43 : decode cX4_init 43 = .ok (.dup, 1) := by decide +kernel
theorem dX4_init_44 : decode cX4_init 44 = .ok (.invokespecial 36, 3) := by decide +kernel
theorem dX4_init_47 : decode cX4_init 47 = .ok (.putfield 37, 3) := by decide +kernel
theorem dX4_init_50 : decode cX4_init 50 = .ok (.aload_n 0, 1) := by decide +kernel
theorem dX4_init_51 : decode cX4_init 51 = .ok (.new 41, 3) := by decide +kernel
theorem dX4_init_54 : decode cX4_init 54 = .ok (.dup, 1) := by decide +kernel
theorem dX4_init_55 : decode cX4_init 55 = .ok (.bipush 24, 2) := by decide +kernel
theorem dX4_init_57 : decode cX4_init 57 = .ok (.iconst 0, 1) := by decide +kernel
theorem dX4_init_58 : decode cX4_init 58 = .ok (.invokespecial 43, 3) := by decide +kernel
theorem dX4_init_61 : decode cX4_init 61 = .ok (.putfield 46, 3) := by decide +kernel
theorem dX4_init_64 : decode cX4_init 64 = .ok (.aload_n 0, 1) := by decide +kernel
theorem dX4_init_65 : decode cX4_init 65 = .ok (.new 41, 3) := by decide +kernel
theorem dX4_init_68 : decode cX4_init 68 = .ok (.dup, 1) := by decide +kernel
theorem dX4_init_69 : decode cX4_init 69 = .ok (.bipush 24, 2) := by decide +kernel
theorem dX4_init_71 : decode cX4_init 71 = .ok (.iconst 0, 1) := by decide +kernel
theorem dX4_init_72 : decode cX4_init 72 = .ok (.invokespecial 43, 3) := by decide +kernel
theorem dX4_init_75 : decode cX4_init 75 = .ok (.putfield 50, 3) := by decide +kernel
theorem dX4_init_78 : decode cX4_init 78 = .ok (.aload_n 0, 1) := by decide +kernel
theorem dX4_init_79 : decode cX4_init 79 = .ok (.new 41, 3) := by decide +kernel
theorem dX4_init_82 : decode cX4_init 82 = .ok (.dup, 1) := by decide +kernel
theorem dX4_init_83 : decode cX4_init 83 = .ok (.bipush 24, 2) := by decide +kernel
theorem dX4_init_85 : decode cX4_init 85 = .ok (.iconst 0, 1) := by decide +kernel
theorem dX4_init_86 : decode cX4_init 86 = .ok (.invokespecial 43, 3) := by decide +kernel
theorem dX4_init_89 : decode cX4_init 89 = .ok (.putfield 53, 3) := by decide +kernel
theorem dX4_init_92 : decode cX4_init 92 = .ok (.aload_n 0, 1) := by decide +kernel
theorem dX4_init_93 : decode cX4_init 93 = .ok (.new 41, 3) := by decide +kernel
theorem dX4_init_96 : decode cX4_init 96 = .ok (.dup, 1) := by decide +kernel
theorem dX4_init_97 : decode cX4_init 97 = .ok (.sipush 384, 3) := by decide +kernel
theorem dX4_init_100 : decode cX4_init 100 = .ok (.iconst (-1), 1) := by decide +kernel
theorem dX4_init_101 : decode cX4_init 101 = .ok (.invokespecial 43, 3) := by decide +kernel
theorem dX4_init_104 : decode cX4_init 104 = .ok (.putfield 56, 3) := by decide +kernel
theorem dX4_init_107 : decode cX4_init 107 = .ok (.aload_n 0, 1) := by decide +kernel
theorem dX4_init_108 : decode cX4_init 108 = .ok (.iconst 5, 1) := by decide +kernel
theorem dX4_init_109 : decode cX4_init 109 = .ok (.putfield 59, 3) := by decide +kernel
theorem dX4_init_112 : decode cX4_init 112 = .ok (.aload_n 0, 1) := by decide +kernel
theorem dX4_init_113 : decode cX4_init 113 = .ok (.iconst (-1), 1) := by decide +kernel
theorem dX4_init_114 : decode cX4_init 114 = .ok (.putfield 63, 3) := by decide +kernel
theorem dX4_init_117 : decode cX4_init 117 = .ok (.aload_n 0, 1) := by decide +kernel
theorem dX4_init_118 : decode cX4_init 118 = .ok (.iconst 0, 1) := by decide +kernel
theorem dX4_init_119 : decode cX4_init 119 = .ok (.putfield 66, 3) := by decide +kernel
theorem dX4_init_122 : decode cX4_init 122 = .ok (.return_, 1) := by decide +kernel
set_option maxRecDepth 20000 in
theorem ggX4_placeOf_X5_indexOf : GoodIn wsX4_placeOf wsX5_indexOf := goodIn_r _ [6, 7, 8, 20, 21] (by decide +kernel) (by decide +kernel)
set_option maxRecDepth 20000 in
theorem gX4_placeOf_X5_indexOf : GoodIn wsX4_placeOf (wsV RX4 69 RX5 yX5_indexOf wsX5_indexOf) := goodIn_app (goodIn_of _ (by decide +kernel)) ggX4_placeOf_X5_indexOf
theorem dX4_placeOf_0 : decode cX4_placeOf 0 = .ok (.aload_n 0, 1) := by decide +kernel
theorem dX4_placeOf_1 : decode cX4_placeOf 1 = .ok (.getfield 14, 3) := by decide +kernel
theorem dX4_placeOf_4 : decode cX4_placeOf 4 = .ok (.iload_n 1, 1) := by decide +kernel
theorem dX4_placeOf_5 : decode cX4_placeOf 5 = .ok (.invokevirtual 69, 3) := by decide +kernel
theorem dX4_placeOf_8 : decode cX4_placeOf 8 = .ok (.ireturn, 1) := by decide +kernel
set_option maxRecDepth 20000 in
theorem ggX4_placeByHistory_X1_placeOf : GoodIn wsX4_placeByHistory wsX1_placeOf := goodIn_r _ [6, 7, 8, 9, 10, 11, 12, 13, 14, 15, 16, 17, 18, 19, 20, 21, 22, 23, 24, 25, 26, 27, 28, 29, 30, 31, 5, 32, 33, 34, 35, 36, 37, 38, 39, 40, 41, 42, 43, 44, 45, 46, 47, 48, 49, 50, 51, 52, 53, 54, 55, 56, 57, 69, 70, 71, 72, 73, 74] (by decide +kernel) (by decide +kernel)
set_option maxRecDepth 20000 in
theorem gX4_placeByHistory_X1_placeOf : GoodIn wsX4_placeByHistory (wsV RX4 73 RX1 yX1_placeOf wsX1_placeOf) := goodIn_app (goodIn_of _ (by decide +kernel)) ggX4_placeByHistory_X1_placeOf
theorem dX4_placeByHistory_0 : decode cX4_placeByHistory 0 = .ok (.aload_n 0, 1) := by decide +kernel
theorem dX4_placeByHistory_1 : decode cX4_placeByHistory 1 = .ok (.getfield 23, 3) := by decide +kernel
theorem dX4_placeByHistory_4 : decode cX4_placeByHistory 4 = .ok (.iload_n 1, 1) := by decide +kernel
theorem dX4_placeByHistory_5 : decode cX4_placeByHistory 5 = .ok (.invokevirtual 73, 3) := by decide +kernel
theorem dX4_placeByHistory_8 : decode cX4_placeByHistory 8 = .ok (.ireturn, 1) := by decide +kernel
set_option maxRecDepth 20000 in
theorem ggX4_crewsInChart_X5_size : GoodIn wsX4_crewsInChart wsX5_size := goodIn_r _ [6, 7, 19, 20] (by decide +kernel) (by decide +kernel)
set_option maxRecDepth 20000 in
theorem gX4_crewsInChart_X5_size : GoodIn wsX4_crewsInChart (wsV RX4 76 RX5 yX5_size wsX5_size) := goodIn_app (goodIn_of _ (by decide +kernel)) ggX4_crewsInChart_X5_size
theorem dX4_crewsInChart_0 : decode cX4_crewsInChart 0 = .ok (.aload_n 0, 1) := by decide +kernel
theorem dX4_crewsInChart_1 : decode cX4_crewsInChart 1 = .ok (.getfield 14, 3) := by decide +kernel
theorem dX4_crewsInChart_4 : decode cX4_crewsInChart 4 = .ok (.invokevirtual 76, 3) := by decide +kernel
theorem dX4_crewsInChart_7 : decode cX4_crewsInChart 7 = .ok (.ireturn, 1) := by decide +kernel
theorem dX4_daysOver_0 : decode cX4_daysOver 0 = .ok (.aload_n 0, 1) := by decide +kernel
theorem dX4_daysOver_1 : decode cX4_daysOver 1 = .ok (.getfield 66, 3) := by decide +kernel
theorem dX4_daysOver_4 : decode cX4_daysOver 4 = .ok (.ireturn, 1) := by decide +kernel
theorem dX4_dayIsOn_0 : decode cX4_dayIsOn 0 = .ok (.aload_n 0, 1) := by decide +kernel
theorem dX4_dayIsOn_1 : decode cX4_dayIsOn 1 = .ok (.getfield 63, 3) := by decide +kernel
theorem dX4_dayIsOn_4 : decode cX4_dayIsOn 4 = .ok (.iconst (-1), 1) := by decide +kernel
theorem dX4_dayIsOn_5 : decode cX4_dayIsOn 5 = .ok (.if_icmp .eq 7, 3) := by decide +kernel
theorem dX4_dayIsOn_8 : decode cX4_dayIsOn 8 = .ok (.iconst 1, 1) := by decide +kernel
theorem dX4_dayIsOn_9 : decode cX4_dayIsOn 9 = .ok (.goto 4, 3) := by decide +kernel
theorem dX4_dayIsOn_12 : decode cX4_dayIsOn 12 = .ok (.iconst 0, 1) := by decide +kernel
theorem dX4_dayIsOn_13 : decode cX4_dayIsOn 13 = .ok (.ireturn, 1) := by decide +kernel
set_option maxRecDepth 20000 in
theorem ggX4_change_X1_happen : GoodIn wsX4_change wsX1_happen := goodIn_r _ [7, 8, 9, 10, 11, 12, 13, 14, 15, 16, 17, 18, 19, 20, 21, 22, 23, 24, 25, 26, 27, 28, 29, 30, 31, 32, 33, 34, 35, 36, 37, 38, 39, 40, 41, 42, 43, 75, 76] (by decide +kernel) (by decide +kernel)
set_option maxRecDepth 20000 in
theorem gX4_change_X1_happen : GoodIn wsX4_change (va_wsS RX4 80 yX1_happen wsX1_happen) := goodIn_app (goodIn_of _ (by decide +kernel)) ggX4_change_X1_happen
set_option maxRecDepth 20000 in
theorem ggX4_change_X1_note : GoodIn wsX4_change wsX1_note := goodIn_r _ [47, 48, 49, 50, 19, 20, 21, 15, 22, 17, 23, 24, 25, 26, 18, 77, 78, 79, 80, 75, 76] (by decide +kernel) (by decide +kernel)
set_option maxRecDepth 20000 in
theorem gX4_change_X1_note : GoodIn wsX4_change (wsV RX4 84 RX1 yX1_note wsX1_note) := goodIn_app (goodIn_of _ (by decide +kernel)) ggX4_change_X1_note
set_option maxRecDepth 20000 in
theorem ggX4_change_X7_forget : GoodIn wsX4_change wsX7_forget := goodIn_r _ [55, 56, 57, 58, 59, 60, 61, 62, 63, 81, 82, 83, 84, 85, 86, 87] (by decide +kernel) (by decide +kernel)
set_option maxRecDepth 20000 in
theorem gX4_change_X7_forget : GoodIn wsX4_change (wsV RX4 88 RX7 yX7_forget wsX7_forget) := goodIn_app (goodIn_of _ (by decide +kernel)) ggX4_change_X7_forget
theorem dX4_change_0 : decode cX4_change 0 = .ok (.aload_n 0, 1) := by decide +kernel
theorem dX4_change_1 : decode cX4_change 1 = .ok (.getfield 14, 3) := by decide +kernel
theorem dX4_change_4 : decode cX4_change 4 = .ok (.iload_n 1, 1) := by decide +kernel
theorem dX4_change_5 : decode cX4_change 5 = .ok (.iload_n 2, 1) := by decide +kernel
theorem dX4_change_6 : decode cX4_change 6 = .ok (.iload_n 3, 1) := by decide +kernel
theorem dX4_change_7 : decode cX4_change 7 = .ok (.invokestatic 80, 3) := by decide +kernel
theorem dX4_change_10 : decode cX4_change 10 = .ok (.aload_n 0, 1) := by decide +kernel
theorem dX4_change_11 : decode cX4_change 11 = .ok (.getfield 23, 3) := by decide +kernel
theorem dX4_change_14 : decode cX4_change 14 = .ok (.iload_n 1, 1) := by decide +kernel
theorem dX4_change_15 : decode cX4_change 15 = .ok (.iload_n 2, 1) := by decide +kernel
theorem dX4_change_16 : decode cX4_change 16 = .ok (.iload_n 3, 1) := by decide +kernel
theorem dX4_change_17 : decode cX4_change 17 = .ok (.invokevirtual 84, 3) := by decide +kernel
theorem dX4_change_20 : decode cX4_change 20 = .ok (.iload_n 1, 1) := by decide +kernel
theorem dX4_change_21 : decode cX4_change 21 = .ok (.iconst 1, 1) := by decide +kernel
theorem dX4_change_22 : decode cX4_change 22 = .ok (.if_icmp .ne 11, 3) := by decide +kernel
theorem dX4_change_25 : decode cX4_change 25 = .ok (.aload_n 0, 1) := by decide +kernel
theorem dX4_change_26 : decode cX4_change 26 = .ok (.getfield 37, 3) := by decide +kernel
theorem dX4_change_29 : decode cX4_change 29 = .ok (.iload_n 2, 1) := by decide +kernel
theorem dX4_change_30 : decode cX4_change 30 = .ok (.invokevirtual 88, 3) := by decide +kernel
theorem dX4_change_33 : decode cX4_change 33 = .ok (.return_, 1) := by decide +kernel
theorem dX4_tellDivision_0 : decode cX4_tellDivision 0 = .ok (.aload_n 0, 1) := by decide +kernel
theorem dX4_tellDivision_1 : decode cX4_tellDivision 1 = .ok (.getfield 59, 3) := by decide +kernel
theorem dX4_tellDivision_4 : decode cX4_tellDivision 4 = .ok (.istore_n 2, 1) := by decide +kernel
theorem dX4_tellDivision_5 : decode cX4_tellDivision 5 = .ok (.aload_n 0, 1) := by decide +kernel
theorem dX4_tellDivision_6 : decode cX4_tellDivision 6 = .ok (.iload_n 1, 1) := by decide +kernel
theorem dX4_tellDivision_7 : decode cX4_tellDivision 7 = .ok (.putfield 59, 3) := by decide +kernel
theorem dX4_tellDivision_10 : decode cX4_tellDivision 10 = .ok (.iload_n 2, 1) := by decide +kernel
theorem dX4_tellDivision_11 : decode cX4_tellDivision 11 = .ok (.ireturn, 1) := by decide +kernel
set_option maxRecDepth 20000 in
theorem ggX4_openDay_X5_size : GoodIn wsX4_openDay wsX5_size := goodIn_r _ [10, 11, 95, 96] (by decide +kernel) (by decide +kernel)
set_option maxRecDepth 20000 in
theorem gX4_openDay_X5_size : GoodIn wsX4_openDay (wsV RX4 76 RX5 yX5_size wsX5_size) := goodIn_app (goodIn_of _ (by decide +kernel)) ggX4_openDay_X5_size
set_option maxRecDepth 20000 in
theorem ggX4_openDay_X4_divisionsOf : GoodIn wsX4_openDay wsX4_divisionsOf := goodIn_r _ [15, 16, 17, 18, 19] (by decide +kernel) (by decide +kernel)
set_option maxRecDepth 20000 in
theorem gX4_openDay_X4_divisionsOf : GoodIn wsX4_openDay (va_wsS RX4 91 yX4_divisionsOf wsX4_divisionsOf) := goodIn_app (goodIn_of _ (by decide +kernel)) ggX4_openDay_X4_divisionsOf
set_option maxRecDepth 20000 in
theorem ggX4_openDay_X7_openDay : GoodIn wsX4_openDay wsX7_openDay := goodIn_r _ [24, 25, 26, 27, 28, 23, 29, 30, 31, 32, 7, 8, 9, 10, 11, 33, 34, 35, 36, 37, 38, 39, 40, 41, 42, 43, 44, 45, 46, 47, 97, 98, 99, 100, 101, 95, 96, 102, 103] (by decide +kernel) (by decide +kernel)
set_option maxRecDepth 20000 in
theorem gX4_openDay_X7_openDay : GoodIn wsX4_openDay (wsV RX4 95 RX7 yX7_openDay wsX7_openDay) := goodIn_app (goodIn_of _ (by decide +kernel)) ggX4_openDay_X7_openDay
set_option maxRecDepth 20000 in
theorem ggX4_openDay_X4_lineUp : GoodIn wsX4_openDay wsX4_lineUp := goodIn_r _ [51, 52, 1, 3, 2, 53, 54, 55, 56, 57, 58, 59, 60, 61, 62, 63, 64, 65, 66, 67, 9, 68, 11, 69, 70, 71, 45, 72, 47, 73, 74, 7, 8, 10, 75, 34, 35, 36, 37, 38, 39, 40, 41, 76, 77, 78, 79, 80, 81, 82, 83, 84, 85, 86, 87, 88, 89, 90, 91, 92, 93, 94, 104, 105, 106, 95, 96, 102, 103] (by decide +kernel) (by decide +kernel)
set_option maxRecDepth 20000 in
theorem gX4_openDay_X4_lineUp : GoodIn wsX4_openDay (wsV RX4 99 RX4 yX4_lineUp wsX4_lineUp) := goodIn_app (goodIn_of _ (by decide +kernel)) ggX4_openDay_X4_lineUp
theorem dX4_openDay_0 : decode cX4_openDay 0 = .ok (.aload_n 0, 1) := by decide +kernel
theorem dX4_openDay_1 : decode cX4_openDay 1 = .ok (.getfield 14, 3) := by decide +kernel
theorem dX4_openDay_4 : decode cX4_openDay 4 = .ok (.invokevirtual 76, 3) := by decide +kernel
theorem dX4_openDay_7 : decode cX4_openDay 7 = .ok (.aload_n 0, 1) := by decide +kernel
theorem dX4_openDay_8 : decode cX4_openDay 8 = .ok (.getfield 59, 3) := by decide +kernel
theorem dX4_openDay_11 : decode cX4_openDay 11 = .ok (.invokestatic 91, 3) := by decide +kernel
theorem dX4_openDay_14 : decode cX4_openDay 14 = .ok (.istore_n 1, 1) := by decide +kernel
theorem dX4_openDay_15 : decode cX4_openDay 15 = .ok (.aload_n 0, 1) := by decide +kernel
theorem dX4_openDay_16 : decode cX4_openDay 16 = .ok (.iload_n 1, 1) := by decide +kernel
theorem dX4_openDay_17 : decode cX4_openDay 17 = .ok (.iconst 1, 1) := by decide +kernel
theorem dX4_openDay_18 : decode cX4_openDay 18 = .ok (.isub, 1) := by decide +kernel
theorem dX4_openDay_19 : decode cX4_openDay 19 = .ok (.putfield 63, 3) := by decide +kernel
theorem dX4_openDay_22 : decode cX4_openDay 22 = .ok (.aload_n 0, 1) := by decide +kernel
theorem dX4_openDay_23 : decode cX4_openDay 23 = .ok (.getfield 37, 3) := by decide +kernel
theorem dX4_openDay_26 : decode cX4_openDay 26 = .ok (.aload_n 0, 1) := by decide +kernel
theorem dX4_openDay_27 : decode cX4_openDay 27 = .ok (.getfield 14, 3) := by decide +kernel
theorem dX4_openDay_30 : decode cX4_openDay 30 = .ok (.aload_n 0, 1) := by decide +kernel
theorem dX4_openDay_31 : decode cX4_openDay 31 = .ok (.getfield 66, 3) := by decide +kernel
theorem dX4_openDay_34 : decode cX4_openDay 34 = .ok (.invokevirtual 95, 3) := by decide +kernel
theorem dX4_openDay_37 : decode cX4_openDay 37 = .ok (.aload_n 0, 1) := by decide +kernel
theorem dX4_openDay_38 : decode cX4_openDay 38 = .ok (.invokevirtual 99, 3) := by decide +kernel
theorem dX4_openDay_41 : decode cX4_openDay 41 = .ok (.iload_n 1, 1) := by decide +kernel
theorem dX4_openDay_42 : decode cX4_openDay 42 = .ok (.ireturn, 1) := by decide +kernel
theorem dX4_divisionsOf_0 : decode cX4_divisionsOf 0 = .ok (.iload_n 1, 1) := by decide +kernel
theorem dX4_divisionsOf_1 : decode cX4_divisionsOf 1 = .ok (.ifCond .gt 5, 3) := by decide +kernel
theorem dX4_divisionsOf_4 : decode cX4_divisionsOf 4 = .ok (.iconst 1, 1) := by decide +kernel
theorem dX4_divisionsOf_5 : decode cX4_divisionsOf 5 = .ok (.ireturn, 1) := by decide +kernel
theorem dX4_divisionsOf_6 : decode cX4_divisionsOf 6 = .ok (.iload_n 0, 1) := by decide +kernel
theorem dX4_divisionsOf_7 : decode cX4_divisionsOf 7 = .ok (.iload_n 1, 1) := by decide +kernel
theorem dX4_divisionsOf_8 : decode cX4_divisionsOf 8 = .ok (.idiv, 1) := by decide +kernel
theorem dX4_divisionsOf_9 : decode cX4_divisionsOf 9 = .ok (.istore_n 2, 1) := by decide +kernel
theorem dX4_divisionsOf_10 : decode cX4_divisionsOf 10 = .ok (.iload_n 0, 1) := by decide +kernel
theorem dX4_divisionsOf_11 : decode cX4_divisionsOf 11 = .ok (.iload_n 1, 1) := by decide +kernel
theorem dX4_divisionsOf_12 : decode cX4_divisionsOf 12 = .ok (.irem, 1) := by decide +kernel
theorem dX4_divisionsOf_13 : decode cX4_divisionsOf 13 = .ok (.istore_n 3, 1) := by decide +kernel
theorem dX4_divisionsOf_14 : decode cX4_divisionsOf 14 = .ok (.iconst 1, 1) := by decide +kernel
theorem dX4_divisionsOf_15 : decode cX4_divisionsOf 15 = .ok (.iload_n 3, 1) := by decide +kernel
theorem dX4_divisionsOf_16 : decode cX4_divisionsOf 16 = .ok (.iconst 1, 1) := by decide +kernel
theorem dX4_divisionsOf_17 : decode cX4_divisionsOf 17 = .ok (.if_icmp .le 9, 3) := by decide +kernel
theorem dX4_divisionsOf_20 : decode cX4_divisionsOf 20 = .ok (.iload_n 2, 1) := by decide +kernel
theorem dX4_divisionsOf_21 : decode cX4_divisionsOf 21 = .ok (.iconst 1, 1) := by decide +kernel
theorem dX4_divisionsOf_22 : decode cX4_divisionsOf 22 = .ok (.iadd, 1) := by decide +kernel
theorem dX4_divisionsOf_23 : decode cX4_divisionsOf 23 = .ok (.goto 4, 3) := by decide +kernel
theorem dX4_divisionsOf_26 : decode cX4_divisionsOf 26 = .ok (.iload_n 2, 1) := by decide +kernel
theorem dX4_divisionsOf_27 : decode cX4_divisionsOf 27 = .ok (.invokestatic 102, 3) := by decide +kernel
theorem dX4_divisionsOf_30 : decode cX4_divisionsOf 30 = .ok (.ireturn, 1) := by decide +kernel
set_option maxRecDepth 20000 in
theorem ggX4_lineUp_X3_lineUp : GoodIn wsX4_lineUp wsX3_lineUp := goodIn_r _ [9, 10, 11, 12, 13, 8, 14, 15, 16, 17, 18, 19, 20, 21, 22, 23, 24, 25, 26, 27, 28, 29, 30, 31, 32, 33, 34, 35, 36, 37, 38, 39, 40, 41, 42, 43, 44, 45, 46, 47, 48, 49, 50, 62, 63, 64, 65, 66, 67, 68] (by decide +kernel) (by decide +kernel)
set_option maxRecDepth 20000 in
theorem gX4_lineUp_X3_lineUp : GoodIn wsX4_lineUp (wsV RX4 107 RX3 yX3_lineUp wsX3_lineUp) := goodIn_app (goodIn_of _ (by decide +kernel)) ggX4_lineUp_X3_lineUp
theorem dX4_lineUp_0 : decode cX4_lineUp 0 = .ok (.aload_n 0, 1) := by decide +kernel
theorem dX4_lineUp_1 : decode cX4_lineUp 1 = .ok (.getfield 30, 3) := by decide +kernel
theorem dX4_lineUp_4 : decode cX4_lineUp 4 = .ok (.aload_n 0, 1) := by decide +kernel
theorem dX4_lineUp_5 : decode cX4_lineUp 5 = .ok (.getfield 14, 3) := by decide +kernel
theorem dX4_lineUp_8 : decode cX4_lineUp 8 = .ok (.aload_n 0, 1) := by decide +kernel
theorem dX4_lineUp_9 : decode cX4_lineUp 9 = .ok (.getfield 63, 3) := by decide +kernel
theorem dX4_lineUp_12 : decode cX4_lineUp 12 = .ok (.aload_n 0, 1) := by decide +kernel
theorem dX4_lineUp_13 : decode cX4_lineUp 13 = .ok (.getfield 59, 3) := by decide +kernel
theorem dX4_lineUp_16 : decode cX4_lineUp 16 = .ok (.imul, 1) := by decide +kernel
theorem dX4_lineUp_17 : decode cX4_lineUp 17 = .ok (.aload_n 0, 1) := by decide +kernel
theorem dX4_lineUp_18 : decode cX4_lineUp 18 = .ok (.getfield 59, 3) := by decide +kernel
theorem dX4_lineUp_21 : decode cX4_lineUp 21 = .ok (.iconst 1, 1) := by decide +kernel
theorem dX4_lineUp_22 : decode cX4_lineUp 22 = .ok (.iadd, 1) := by decide +kernel
theorem dX4_lineUp_23 : decode cX4_lineUp 23 = .ok (.invokevirtual 107, 3) := by decide +kernel
theorem dX4_lineUp_26 : decode cX4_lineUp 26 = .ok (.return_, 1) := by decide +kernel
set_option maxRecDepth 20000 in
theorem ggX4_nearestAhead_X3_nearestAhead : GoodIn wsX4_nearestAhead wsX3_nearestAhead := goodIn_r _ [6, 7, 8, 9, 10, 11, 12, 13, 14, 15, 16, 17, 5, 18, 19, 20, 21, 22, 23, 24, 25, 26, 27, 28, 29, 30, 31, 32, 33, 34, 46, 47, 48, 49, 50, 51, 52] (by decide +kernel) (by decide +kernel)
set_option maxRecDepth 20000 in
theorem gX4_nearestAhead_X3_nearestAhead : GoodIn wsX4_nearestAhead (wsV RX4 113 RX3 yX3_nearestAhead wsX3_nearestAhead) := goodIn_app (goodIn_of _ (by decide +kernel)) ggX4_nearestAhead_X3_nearestAhead
theorem dX4_nearestAhead_0 : decode cX4_nearestAhead 0 = .ok (.aload_n 0, 1) := by decide +kernel
theorem dX4_nearestAhead_1 : decode cX4_nearestAhead 1 = .ok (.getfield 30, 3) := by decide +kernel
theorem dX4_nearestAhead_4 : decode cX4_nearestAhead 4 = .ok (.iload_n 1, 1) := by decide +kernel
theorem dX4_nearestAhead_5 : decode cX4_nearestAhead 5 = .ok (.invokevirtual 113, 3) := by decide +kernel
theorem dX4_nearestAhead_8 : decode cX4_nearestAhead 8 = .ok (.ireturn, 1) := by decide +kernel
set_option maxRecDepth 20000 in
theorem ggX4_bump_X3_bump : GoodIn wsX4_bump wsX3_bump := goodIn_r _ [9, 10, 11, 12, 13, 14, 15, 16, 17, 18, 19, 20, 21, 22, 23, 24, 25, 51, 52, 53, 54, 55, 56, 57] (by decide +kernel) (by decide +kernel)
set_option maxRecDepth 20000 in
theorem gX4_bump_X3_bump : GoodIn wsX4_bump (wsV RX4 116 RX3 yX3_bump wsX3_bump) := goodIn_app (goodIn_of _ (by decide +kernel)) ggX4_bump_X3_bump
set_option maxRecDepth 20000 in
theorem ggX4_bump_X6_add : GoodIn wsX4_bump wsX6_add := goodIn_r _ [29, 30, 31, 32, 23, 33, 25, 34, 35, 21, 22, 24, 56, 57] (by decide +kernel) (by decide +kernel)
set_option maxRecDepth 20000 in
theorem gX4_bump_X6_add : GoodIn wsX4_bump (wsV RX4 119 RX6 yX6_add wsX6_add) := goodIn_app (goodIn_of _ (by decide +kernel)) ggX4_bump_X6_add
set_option maxRecDepth 20000 in
theorem ggX4_bump_X3_beganRightAhead : GoodIn wsX4_bump wsX3_beganRightAhead := goodIn_r _ [39, 10, 13, 14, 15, 16, 17, 18, 19, 51, 52, 53, 54, 55] (by decide +kernel) (by decide +kernel)
set_option maxRecDepth 20000 in
theorem gX4_bump_X3_beganRightAhead : GoodIn wsX4_bump (wsV RX4 122 RX3 yX3_beganRightAhead wsX3_beganRightAhead) := goodIn_app (goodIn_of _ (by decide +kernel)) ggX4_bump_X3_beganRightAhead
theorem dX4_bump_0 : decode cX4_bump 0 = .ok (.aload_n 0, 1) := by decide +kernel
theorem dX4_bump_1 : decode cX4_bump 1 = .ok (.getfield 30, 3) := by decide +kernel
theorem dX4_bump_4 : decode cX4_bump 4 = .ok (.iload_n 1, 1) := by decide +kernel
theorem dX4_bump_5 : decode cX4_bump 5 = .ok (.iload_n 2, 1) := by decide +kernel
theorem dX4_bump_6 : decode cX4_bump 6 = .ok (.invokevirtual 116, 3) := by decide +kernel
theorem dX4_bump_9 : decode cX4_bump 9 = .ok (.aload_n 0, 1) := by decide +kernel
theorem dX4_bump_10 : decode cX4_bump 10 = .ok (.getfield 46, 3) := by decide +kernel
theorem dX4_bump_13 : decode cX4_bump 13 = .ok (.iload_n 1, 1) := by decide +kernel
theorem dX4_bump_14 : decode cX4_bump 14 = .ok (.iconst 1, 1) := by decide +kernel
theorem dX4_bump_15 : decode cX4_bump 15 = .ok (.invokevirtual 119, 3) := by decide +kernel
theorem dX4_bump_18 : decode cX4_bump 18 = .ok (.aload_n 0, 1) := by decide +kernel
theorem dX4_bump_19 : decode cX4_bump 19 = .ok (.getfield 50, 3) := by decide +kernel
theorem dX4_bump_22 : decode cX4_bump 22 = .ok (.iload_n 2, 1) := by decide +kernel
theorem dX4_bump_23 : decode cX4_bump 23 = .ok (.iconst 1, 1) := by decide +kernel
theorem dX4_bump_24 : decode cX4_bump 24 = .ok (.invokevirtual 119, 3) := by decide +kernel
theorem dX4_bump_27 : decode cX4_bump 27 = .ok (.aload_n 0, 1) := by decide +kernel
theorem dX4_bump_28 : decode cX4_bump 28 = .ok (.getfield 30, 3) := by decide +kernel
theorem dX4_bump_31 : decode cX4_bump 31 = .ok (.iload_n 2, 1) := by decide +kernel
theorem dX4_bump_32 : decode cX4_bump 32 = .ok (.iload_n 1, 1) := by decide +kernel
theorem dX4_bump_33 : decode cX4_bump 33 = .ok (.invokevirtual 122, 3) := by decide +kernel
theorem dX4_bump_36 : decode cX4_bump 36 = .ok (.ifCond .ne 12, 3) := by decide +kernel
theorem dX4_bump_39 : decode cX4_bump 39 = .ok (.aload_n 0, 1) := by decide +kernel
theorem dX4_bump_40 : decode cX4_bump 40 = .ok (.getfield 53, 3) := by decide +kernel
theorem dX4_bump_43 : decode cX4_bump 43 = .ok (.iload_n 1, 1) := by decide +kernel
theorem dX4_bump_44 : decode cX4_bump 44 = .ok (.iconst 1, 1) := by decide +kernel
theorem dX4_bump_45 : decode cX4_bump 45 = .ok (.invokevirtual 119, 3) := by decide +kernel
theorem dX4_bump_48 : decode cX4_bump 48 = .ok (.return_, 1) := by decide +kernel
set_option maxRecDepth 20000 in
theorem ggX4_endDivision_X3_size : GoodIn wsX4_endDivision wsX3_size := goodIn_r _ [7, 8, 9, 10, 11, 12, 13, 14, 160, 161, 162, 163, 164] (by decide +kernel) (by decide +kernel)
set_option maxRecDepth 20000 in
theorem gX4_endDivision_X3_size : GoodIn wsX4_endDivision (wsV RX4 126 RX3 yX3_size wsX3_size) := goodIn_app (goodIn_of _ (by decide +kernel)) ggX4_endDivision_X3_size
set_option maxRecDepth 20000 in
theorem ggX4_endDivision_X3_preyOf : GoodIn wsX4_endDivision wsX3_preyOf := goodIn_r _ [18, 19, 20, 21, 22, 23, 24, 25, 26, 160, 161, 162, 165, 166] (by decide +kernel) (by decide +kernel)
set_option maxRecDepth 20000 in
theorem gX4_endDivision_X3_preyOf : GoodIn wsX4_endDivision (wsV RX4 127 RX3 yX3_preyOf wsX3_preyOf) := goodIn_app (goodIn_of _ (by decide +kernel)) ggX4_endDivision_X3_preyOf
set_option maxRecDepth 20000 in
theorem ggX4_endDivision_X3_starter : GoodIn wsX4_endDivision wsX3_starter := goodIn_r _ [30, 8, 31, 32, 33, 12, 34, 35, 36, 37, 38, 39, 14, 160, 161, 162, 163, 164] (by decide +kernel) (by decide +kernel)
set_option maxRecDepth 20000 in
theorem gX4_endDivision_X3_starter : GoodIn wsX4_endDivision (wsV RX4 110 RX3 yX3_starter wsX3_starter) := goodIn_app (goodIn_of _ (by decide +kernel)) ggX4_endDivision_X3_starter
set_option maxRecDepth 20000 in
theorem ggX4_endDivision_X4_change : GoodIn wsX4_endDivision wsX4_change := goodIn_r _ [44, 45, 46, 47, 48, 49, 50, 51, 52, 53, 54, 55, 56, 57, 58, 12, 59, 14, 35, 60, 61, 62, 63, 64, 65, 66, 67, 68, 69, 70, 71, 36, 37, 38, 39, 72, 10, 11, 13, 73, 74, 75, 76, 77, 78, 79, 80, 81, 82, 83, 84, 85, 86, 87, 88, 89, 90, 91, 92, 93, 94, 23, 95, 25, 149, 150, 151, 152, 153, 154, 155, 156, 157, 158, 159, 163, 164, 167, 168, 169, 170, 171, 172, 173, 174, 175, 165, 166] (by decide +kernel) (by decide +kernel)
set_option maxRecDepth 20000 in
theorem gX4_endDivision_X4_change : GoodIn wsX4_endDivision (wsV RX4 130 RX4 yX4_change wsX4_change) := goodIn_app (goodIn_of _ (by decide +kernel)) ggX4_endDivision_X4_change
set_option maxRecDepth 20000 in
theorem ggX4_endDivision_X4_lineUp : GoodIn wsX4_endDivision wsX4_lineUp := goodIn_r _ [99, 1, 45, 2, 100, 101, 102, 103, 6, 104, 8, 105, 106, 107, 108, 109, 19, 110, 111, 112, 12, 113, 14, 114, 115, 116, 23, 117, 25, 26, 9, 10, 11, 13, 31, 32, 33, 34, 35, 36, 37, 38, 39, 118, 61, 62, 63, 64, 65, 66, 67, 149, 150, 151, 152, 153, 154, 155, 156, 157, 158, 159, 160, 161, 162, 163, 164, 165, 166] (by decide +kernel) (by decide +kernel)
set_option maxRecDepth 20000 in
theorem gX4_endDivision_X4_lineUp : GoodIn wsX4_endDivision (wsV RX4 99 RX4 yX4_lineUp wsX4_lineUp) := goodIn_app (goodIn_of _ (by decide +kernel)) ggX4_endDivision_X4_lineUp
set_option maxRecDepth 20000 in
theorem ggX4_endDivision_X4_closeDay : GoodIn wsX4_endDivision wsX4_closeDay := goodIn_r _ [122, 2, 1, 47, 45, 123, 124, 125, 106, 107, 6, 108, 8, 109, 19, 110, 111, 112, 12, 113, 14, 114, 115, 116, 23, 117, 25, 26, 126, 127, 128, 88, 129, 130, 90, 91, 131, 10, 11, 13, 132, 32, 33, 34, 35, 36, 37, 38, 39, 133, 21, 22, 24, 92, 93, 94, 95, 134, 135, 136, 137, 138, 139, 140, 141, 142, 143, 144, 145, 146, 147, 148, 149, 150, 151, 152, 153, 154, 155, 156, 157, 158, 159, 160, 161, 162, 163, 164, 165, 166, 171, 172, 173, 174, 175] (by decide +kernel) (by decide +kernel)
set_option maxRecDepth 20000 in
theorem gX4_endDivision_X4_closeDay : GoodIn wsX4_endDivision (wsV RX4 133 RX4 yX4_closeDay wsX4_closeDay) := goodIn_app (goodIn_of _ (by decide +kernel)) ggX4_endDivision_X4_closeDay
theorem dX4_endDivision_0 : decode cX4_endDivision 0 = .ok (.iconst 0, 1) := by decide +kernel
theorem dX4_endDivision_1 : decode cX4_endDivision 1 = .ok (.istore_n 1, 1) := by decide +kernel
theorem dX4_endDivision_2 : decode cX4_endDivision 2 = .ok (.iload_n 1, 1) := by decide +kernel
theorem dX4_endDivision_3 : decode cX4_endDivision 3 = .ok (.aload_n 0, 1) := by decide +kernel
theorem dX4_endDivision_4 : decode cX4_endDivision 4 = .ok (.getfield 30, 3) := by decide +kernel
theorem dX4_endDivision_7 : decode cX4_endDivision 7 = .ok (.invokevirtual 126, 3) := by decide +kernel
theorem dX4_endDivision_10 : decode cX4_endDivision 10 = .ok (.if_icmp .ge 42, 3) := by decide +kernel
theorem dX4_endDivision_13 : decode cX4_endDivision 13 = .ok (.aload_n 0, 1) := by decide +kernel
theorem dX4_endDivision_14 : decode cX4_endDivision 14 = .ok (.getfield 30, 3) := by decide +kernel
theorem dX4_endDivision_17 : decode cX4_endDivision 17 = .ok (.iload_n 1, 1) := by decide +kernel
theorem dX4_endDivision_18 : decode cX4_endDivision 18 = .ok (.invokevirtual 127, 3) := by decide +kernel
theorem dX4_endDivision_21 : decode cX4_endDivision 21 = .ok (.iconst (-1), 1) := by decide +kernel
theorem dX4_endDivision_22 : decode cX4_endDivision 22 = .ok (.if_icmp .eq 24, 3) := by decide +kernel
theorem dX4_endDivision_25 : decode cX4_endDivision 25 = .ok (.aload_n 0, 1) := by decide +kernel
theorem dX4_endDivision_26 : decode cX4_endDivision 26 = .ok (.iconst 3, 1) := by decide +kernel
theorem dX4_endDivision_27 : decode cX4_endDivision 27 = .ok (.aload_n 0, 1) := by decide +kernel
theorem dX4_endDivision_28 : decode cX4_endDivision 28 = .ok (.getfield 30, 3) := by decide +kernel
theorem dX4_endDivision_31 : decode cX4_endDivision 31 = .ok (.iload_n 1, 1) := by decide +kernel
theorem dX4_endDivision_32 : decode cX4_endDivision 32 = .ok (.invokevirtual 110, 3) := by decide +kernel
theorem dX4_endDivision_35 : decode cX4_endDivision 35 = .ok (.aload_n 0, 1) := by decide +kernel
theorem dX4_endDivision_36 : decode cX4_endDivision 36 = .ok (.getfield 30, 3) := by decide +kernel
theorem dX4_endDivision_39 : decode cX4_endDivision 39 = .ok (.iload_n 1, 1) := by decide +kernel
theorem dX4_endDivision_40 : decode cX4_endDivision 40 = .ok (.invokevirtual 127, 3) := by decide +kernel
theorem dX4_endDivision_43 : decode cX4_endDivision 43 = .ok (.invokevirtual 130, 3) := by decide +kernel
theorem dX4_endDivision_46 : decode cX4_endDivision 46 = .ok (.iinc 1 1, 3) := by decide +kernel
theorem dX4_endDivision_49 : decode cX4_endDivision 49 = .ok (.goto (-47), 3) := by decide +kernel
theorem dX4_endDivision_52 : decode cX4_endDivision 52 = .ok (.aload_n 0, 1) := by decide +kernel
theorem dX4_endDivision_53 : decode cX4_endDivision 53 = .ok (.dup, 1) := by decide +kernel
theorem dX4_endDivision_54 : decode cX4_endDivision 54 = .ok (.getfield 63, 3) := by decide +kernel
theorem dX4_endDivision_57 : decode cX4_endDivision 57 = .ok (.iconst 1, 1) := by decide +kernel
theorem dX4_endDivision_58 : decode cX4_endDivision 58 = .ok (.isub, 1) := by decide +kernel
theorem dX4_endDivision_59 : decode cX4_endDivision 59 = .ok (.putfield 63, 3) := by decide +kernel
theorem dX4_endDivision_62 : decode cX4_endDivision 62 = .ok (.aload_n 0, 1) := by decide +kernel
theorem dX4_endDivision_63 : decode cX4_endDivision 63 = .ok (.getfield 63, 3) := by decide +kernel
theorem dX4_endDivision_66 : decode cX4_endDivision 66 = .ok (.ifCond .lt 12, 3) := by decide +kernel
theorem dX4_endDivision_69 : decode cX4_endDivision 69 = .ok (.aload_n 0, 1) := by decide +kernel
theorem dX4_endDivision_70 : decode cX4_endDivision 70 = .ok (.invokevirtual 99, 3) := by decide +kernel
theorem dX4_endDivision_73 : decode cX4_endDivision 73 = .ok (.aload_n 0, 1) := by decide +kernel
theorem dX4_endDivision_74 : decode cX4_endDivision 74 = .ok (.getfield 63, 3) := by decide +kernel
theorem dX4_endDivision_77 : decode cX4_endDivision 77 = .ok (.ireturn, 1) := by decide +kernel
theorem dX4_endDivision_78 : decode cX4_endDivision 78 = .ok (.aload_n 0, 1) := by decide +kernel
theorem dX4_endDivision_79 : decode cX4_endDivision 79 = .ok (.invokevirtual 133, 3) := by decide +kernel
theorem dX4_endDivision_82 : decode cX4_endDivision 82 = .ok (.iconst (-1), 1) := by decide +kernel
theorem dX4_endDivision_83 : decode cX4_endDivision 83 = .ok (.ireturn, 1) := by decide +kernel
set_option maxRecDepth 20000 in
theorem ggX4_closeDay_X3_close : GoodIn wsX4_closeDay wsX3_close := goodIn_r _ [11, 12, 13, 14, 15, 16, 17, 18, 19, 20, 21, 22, 23, 24, 25, 26, 27, 83, 84, 85, 86, 87, 88, 89] (by decide +kernel) (by decide +kernel)
set_option maxRecDepth 20000 in
theorem gX4_closeDay_X3_close : GoodIn wsX4_closeDay (wsV RX4 136 RX3 yX3_close wsX3_close) := goodIn_app (goodIn_of _ (by decide +kernel)) ggX4_closeDay_X3_close
set_option maxRecDepth 20000 in
theorem ggX4_closeDay_X7_closeDay : GoodIn wsX4_closeDay wsX7_closeDay := goodIn_r _ [32, 33, 34, 35, 36, 37, 38, 18, 39, 20, 40, 41, 42, 43, 44, 45, 46, 47, 48, 49, 50, 51, 24, 52, 26, 27, 53, 54, 55, 56, 57, 58, 59, 31, 60, 61, 62, 63, 64, 65, 66, 67, 68, 90, 91, 92, 93, 94, 86, 87, 88, 89] (by decide +kernel) (by decide +kernel)
set_option maxRecDepth 20000 in
theorem gX4_closeDay_X7_closeDay : GoodIn wsX4_closeDay (wsV RX4 139 RX7 yX7_closeDay wsX7_closeDay) := goodIn_app (goodIn_of _ (by decide +kernel)) ggX4_closeDay_X7_closeDay
set_option maxRecDepth 20000 in
theorem ggX4_closeDay_X5_size : GoodIn wsX4_closeDay wsX5_size := goodIn_r _ [39, 20, 86, 87] (by decide +kernel) (by decide +kernel)
set_option maxRecDepth 20000 in
theorem gX4_closeDay_X5_size : GoodIn wsX4_closeDay (wsV RX4 76 RX5 yX5_size wsX5_size) := goodIn_app (goodIn_of _ (by decide +kernel)) ggX4_closeDay_X5_size
set_option maxRecDepth 20000 in
theorem ggX4_closeDay_X5_at : GoodIn wsX4_closeDay wsX5_at := goodIn_r _ [43, 44, 45, 46, 47, 18, 48, 20, 86, 87] (by decide +kernel) (by decide +kernel)
set_option maxRecDepth 20000 in
theorem gX4_closeDay_X5_at : GoodIn wsX4_closeDay (wsV RX4 141 RX5 yX5_at wsX5_at) := goodIn_app (goodIn_of _ (by decide +kernel)) ggX4_closeDay_X5_at
set_option maxRecDepth 20000 in
theorem ggX4_closeDay_X6_put : GoodIn wsX4_closeDay wsX6_put := goodIn_r _ [56, 26, 88, 89] (by decide +kernel) (by decide +kernel)
set_option maxRecDepth 20000 in
theorem gX4_closeDay_X6_put : GoodIn wsX4_closeDay (wsV RX4 144 RX6 yX6_put wsX6_put) := goodIn_app (goodIn_of _ (by decide +kernel)) ggX4_closeDay_X6_put
theorem dX4_closeDay_0 : decode cX4_closeDay 0 = .ok (.aload_n 0, 1) := by decide +kernel
theorem dX4_closeDay_1 : decode cX4_closeDay 1 = .ok (.iconst (-1), 1) := by decide +kernel
theorem dX4_closeDay_2 : decode cX4_closeDay 2 = .ok (.putfield 63, 3) := by decide +kernel
theorem dX4_closeDay_5 : decode cX4_closeDay 5 = .ok (.aload_n 0, 1) := by decide +kernel
theorem dX4_closeDay_6 : decode cX4_closeDay 6 = .ok (.getfield 30, 3) := by decide +kernel
theorem dX4_closeDay_9 : decode cX4_closeDay 9 = .ok (.invokevirtual 136, 3) := by decide +kernel
theorem dX4_closeDay_12 : decode cX4_closeDay 12 = .ok (.aload_n 0, 1) := by decide +kernel
theorem dX4_closeDay_13 : decode cX4_closeDay 13 = .ok (.getfield 37, 3) := by decide +kernel
theorem dX4_closeDay_16 : decode cX4_closeDay 16 = .ok (.aload_n 0, 1) := by decide +kernel
theorem dX4_closeDay_17 : decode cX4_closeDay 17 = .ok (.getfield 14, 3) := by decide +kernel
theorem dX4_closeDay_20 : decode cX4_closeDay 20 = .ok (.aload_n 0, 1) := by decide +kernel
theorem dX4_closeDay_21 : decode cX4_closeDay 21 = .ok (.getfield 66, 3) := by decide +kernel
theorem dX4_closeDay_24 : decode cX4_closeDay 24 = .ok (.invokevirtual 139, 3) := by decide +kernel
theorem dX4_closeDay_27 : decode cX4_closeDay 27 = .ok (.iconst 0, 1) := by decide +kernel
theorem dX4_closeDay_28 : decode cX4_closeDay 28 = .ok (.istore_n 1, 1) := by decide +kernel
theorem dX4_closeDay_29 : decode cX4_closeDay 29 = .ok (.iload_n 1, 1) := by decide +kernel
theorem dX4_closeDay_30 : decode cX4_closeDay 30 = .ok (.aload_n 0, 1) := by decide +kernel
theorem dX4_closeDay_31 : decode cX4_closeDay 31 = .ok (.getfield 14, 3) := by decide +kernel
theorem dX4_closeDay_34 : decode cX4_closeDay 34 = .ok (.invokevirtual 76, 3) := by decide +kernel
theorem dX4_closeDay_37 : decode cX4_closeDay 37 = .ok (.if_icmp .ge 33, 3) := by decide +kernel
theorem dX4_closeDay_40 : decode cX4_closeDay 40 = .ok (.aload_n 0, 1) := by decide +kernel
theorem dX4_closeDay_41 : decode cX4_closeDay 41 = .ok (.getfield 56, 3) := by decide +kernel
theorem dX4_closeDay_44 : decode cX4_closeDay 44 = .ok (.aload_n 0, 1) := by decide +kernel
theorem dX4_closeDay_45 : decode cX4_closeDay 45 = .ok (.getfield 66, 3) := by decide +kernel
theorem dX4_closeDay_48 : decode cX4_closeDay 48 = .ok (.bipush 24, 2) := by decide +kernel
theorem dX4_closeDay_50 : decode cX4_closeDay 50 = .ok (.imul, 1) := by decide +kernel
theorem dX4_closeDay_51 : decode cX4_closeDay 51 = .ok (.iload_n 1, 1) := by decide +kernel
theorem dX4_closeDay_52 : decode cX4_closeDay 52 = .ok (.iadd, 1) := by decide +kernel
theorem dX4_closeDay_53 : decode cX4_closeDay 53 = .ok (.aload_n 0, 1) := by decide +kernel
theorem dX4_closeDay_54 : decode cX4_closeDay 54 = .ok (.getfield 14, 3) := by decide +kernel
theorem dX4_closeDay_57 : decode cX4_closeDay 57 = .ok (.iload_n 1, 1) := by decide +kernel
theorem dX4_closeDay_58 : decode cX4_closeDay 58 = .ok (.invokevirtual 141, 3) := by decide +kernel
theorem dX4_closeDay_61 : decode cX4_closeDay 61 = .ok (.invokevirtual 144, 3) := by decide +kernel
theorem dX4_closeDay_64 : decode cX4_closeDay 64 = .ok (.iinc 1 1, 3) := by decide +kernel
theorem dX4_closeDay_67 : decode cX4_closeDay 67 = .ok (.goto (-38), 3) := by decide +kernel
theorem dX4_closeDay_70 : decode cX4_closeDay 70 = .ok (.aload_n 0, 1) := by decide +kernel
theorem dX4_closeDay_71 : decode cX4_closeDay 71 = .ok (.dup, 1) := by decide +kernel
theorem dX4_closeDay_72 : decode cX4_closeDay 72 = .ok (.getfield 66, 3) := by decide +kernel
theorem dX4_closeDay_75 : decode cX4_closeDay 75 = .ok (.iconst 1, 1) := by decide +kernel
theorem dX4_closeDay_76 : decode cX4_closeDay 76 = .ok (.iadd, 1) := by decide +kernel
theorem dX4_closeDay_77 : decode cX4_closeDay 77 = .ok (.putfield 66, 3) := by decide +kernel
theorem dX4_closeDay_80 : decode cX4_closeDay 80 = .ok (.return_, 1) := by decide +kernel
set_option maxRecDepth 20000 in
theorem ggX4_crewAtEndOf_X6_get : GoodIn wsX4_crewAtEndOf wsX6_get := goodIn_r _ [6, 7, 8, 20, 21] (by decide +kernel) (by decide +kernel)
set_option maxRecDepth 20000 in
theorem gX4_crewAtEndOf_X6_get : GoodIn wsX4_crewAtEndOf (wsV RX4 147 RX6 yX6_get wsX6_get) := goodIn_app (goodIn_of _ (by decide +kernel)) ggX4_crewAtEndOf_X6_get
theorem dX4_crewAtEndOf_0 : decode cX4_crewAtEndOf 0 = .ok (.iload_n 2, 1) := by decide +kernel
theorem dX4_crewAtEndOf_1 : decode cX4_crewAtEndOf 1 = .ok (.bipush 24, 2) := by decide +kernel
theorem dX4_crewAtEndOf_3 : decode cX4_crewAtEndOf 3 = .ok (.if_icmp .ge 19, 3) := by decide +kernel
theorem dX4_crewAtEndOf_6 : decode cX4_crewAtEndOf 6 = .ok (.aload_n 0, 1) := by decide +kernel
theorem dX4_crewAtEndOf_7 : decode cX4_crewAtEndOf 7 = .ok (.getfield 56, 3) := by decide +kernel
theorem dX4_crewAtEndOf_10 : decode cX4_crewAtEndOf 10 = .ok (.iload_n 1, 1) := by decide +kernel
theorem dX4_crewAtEndOf_11 : decode cX4_crewAtEndOf 11 = .ok (.bipush 24, 2) := by decide +kernel
theorem dX4_crewAtEndOf_13 : decode cX4_crewAtEndOf 13 = .ok (.imul, 1) := by decide +kernel
theorem dX4_crewAtEndOf_14 : decode cX4_crewAtEndOf 14 = .ok (.iload_n 2, 1) := by decide +kernel
theorem dX4_crewAtEndOf_15 : decode cX4_crewAtEndOf 15 = .ok (.iadd, 1) := by decide +kernel
theorem dX4_crewAtEndOf_16 : decode cX4_crewAtEndOf 16 = .ok (.invokevirtual 147, 3) := by decide +kernel
theorem dX4_crewAtEndOf_19 : decode cX4_crewAtEndOf 19 = .ok (.goto 4, 3) := by decide +kernel
theorem dX4_crewAtEndOf_22 : decode cX4_crewAtEndOf 22 = .ok (.iconst (-1), 1) := by decide +kernel
theorem dX4_crewAtEndOf_23 : decode cX4_crewAtEndOf 23 = .ok (.ireturn, 1) := by decide +kernel
set_option maxRecDepth 20000 in
theorem ggX4_countOf_X6_get : GoodIn wsX4_countOf wsX6_get := goodIn_r _ [9, 10, 11, 35, 36] (by decide +kernel) (by decide +kernel)
set_option maxRecDepth 20000 in
theorem gX4_countOf_X6_get : GoodIn wsX4_countOf (wsV RX4 147 RX6 yX6_get wsX6_get) := goodIn_app (goodIn_of _ (by decide +kernel)) ggX4_countOf_X6_get
set_option maxRecDepth 20000 in
theorem ggX4_countOf_X7_bladesOf : GoodIn wsX4_countOf wsX7_bladesOf := goodIn_r _ [16, 17, 18, 6, 7, 8, 9, 10, 11, 37, 38, 39, 40, 41, 35, 36] (by decide +kernel) (by decide +kernel)
set_option maxRecDepth 20000 in
theorem gX4_countOf_X7_bladesOf : GoodIn wsX4_countOf (wsV RX4 150 RX7 yX7_bladesOf wsX7_bladesOf) := goodIn_app (goodIn_of _ (by decide +kernel)) ggX4_countOf_X7_bladesOf
set_option maxRecDepth 20000 in
theorem ggX4_countOf_X7_spoonsOf : GoodIn wsX4_countOf wsX7_spoonsOf := goodIn_r _ [22, 23, 18, 6, 7, 8, 9, 10, 11, 37, 38, 39, 40, 41, 35, 36] (by decide +kernel) (by decide +kernel)
set_option maxRecDepth 20000 in
theorem gX4_countOf_X7_spoonsOf : GoodIn wsX4_countOf (wsV RX4 153 RX7 yX7_spoonsOf wsX7_spoonsOf) := goodIn_app (goodIn_of _ (by decide +kernel)) ggX4_countOf_X7_spoonsOf
theorem dX4_countOf_0 : decode cX4_countOf 0 = .ok (.iload_n 2, 1) := by decide +kernel
theorem dX4_countOf_1 : decode cX4_countOf 1 = .ok (.tableswitch 67 0 3 #[31, 40, 49, 58], 31) := by decide +kernel
theorem dX4_countOf_32 : decode cX4_countOf 32 = .ok (.aload_n 0, 1) := by decide +kernel
theorem dX4_countOf_33 : decode cX4_countOf 33 = .ok (.getfield 46, 3) := by decide +kernel
theorem dX4_countOf_36 : decode cX4_countOf 36 = .ok (.iload_n 1, 1) := by decide +kernel
theorem dX4_countOf_37 : decode cX4_countOf 37 = .ok (.invokevirtual 147, 3) := by decide +kernel
theorem dX4_countOf_40 : decode cX4_countOf 40 = .ok (.ireturn, 1) := by decide +kernel
theorem dX4_countOf_41 : decode cX4_countOf 41 = .ok (.aload_n 0, 1) := by decide +kernel
theorem dX4_countOf_42 : decode cX4_countOf 42 = .ok (.getfield 50, 3) := by decide +kernel
theorem dX4_countOf_45 : decode cX4_countOf 45 = .ok (.iload_n 1, 1) := by decide +kernel
theorem dX4_countOf_46 : decode cX4_countOf 46 = .ok (.invokevirtual 147, 3) := by decide +kernel
theorem dX4_countOf_49 : decode cX4_countOf 49 = .ok (.ireturn, 1) := by decide +kernel
theorem dX4_countOf_50 : decode cX4_countOf 50 = .ok (.aload_n 0, 1) := by decide +kernel
theorem dX4_countOf_51 : decode cX4_countOf 51 = .ok (.getfield 53, 3) := by decide +kernel
theorem dX4_countOf_54 : decode cX4_countOf 54 = .ok (.iload_n 1, 1) := by decide +kernel
theorem dX4_countOf_55 : decode cX4_countOf 55 = .ok (.invokevirtual 147, 3) := by decide +kernel
theorem dX4_countOf_58 : decode cX4_countOf 58 = .ok (.ireturn, 1) := by decide +kernel
theorem dX4_countOf_59 : decode cX4_countOf 59 = .ok (.aload_n 0, 1) := by decide +kernel
theorem dX4_countOf_60 : decode cX4_countOf 60 = .ok (.getfield 37, 3) := by decide +kernel
theorem dX4_countOf_63 : decode cX4_countOf 63 = .ok (.iload_n 1, 1) := by decide +kernel
theorem dX4_countOf_64 : decode cX4_countOf 64 = .ok (.invokevirtual 150, 3) := by decide +kernel
theorem dX4_countOf_67 : decode cX4_countOf 67 = .ok (.ireturn, 1) := by decide +kernel
theorem dX4_countOf_68 : decode cX4_countOf 68 = .ok (.aload_n 0, 1) := by decide +kernel
theorem dX4_countOf_69 : decode cX4_countOf 69 = .ok (.getfield 37, 3) := by decide +kernel
theorem dX4_countOf_72 : decode cX4_countOf 72 = .ok (.iload_n 1, 1) := by decide +kernel
theorem dX4_countOf_73 : decode cX4_countOf 73 = .ok (.invokevirtual 153, 3) := by decide +kernel
theorem dX4_countOf_76 : decode cX4_countOf 76 = .ok (.ireturn, 1) := by decide +kernel
theorem dX5_init_0 : decode cX5_init 0 = .ok (.aload_n 0, 1) := by decide +kernel
theorem dX5_init_1 : decode cX5_init 1 = .ok (.invokespecial 3, 3) := by decide +kernel
theorem dX5_init_4 : decode cX5_init 4 = .ok (.aload_n 0, 1) := by decide +kernel
theorem dX5_init_5 : decode cX5_init 5 = .ok (.iconst 0, 1) := by decide +kernel
theorem dX5_init_6 : decode cX5_init 6 = .ok (.iload_n 1, 1) := by decide +kernel
theorem dX5_init_7 : decode cX5_init 7 = .ok (.invokestatic 9, 3) := by decide +kernel
theorem dX5_init_10 : decode cX5_init 10 = .ok (.newarray .int, 2) := by decide +kernel
theorem dX5_init_12 : decode cX5_init 12 = .ok (.putfield 15, 3) := by decide +kernel
theorem dX5_init_15 : decode cX5_init 15 = .ok (.aload_n 0, 1) := by decide +kernel
theorem dX5_init_16 : decode cX5_init 16 = .ok (.iconst 0, 1) := by decide +kernel
theorem dX5_init_17 : decode cX5_init 17 = .ok (.putfield 21, 3) := by decide +kernel
theorem dX5_init_20 : decode cX5_init 20 = .ok (.return_, 1) := by decide +kernel
theorem dX5_size_0 : decode cX5_size 0 = .ok (.aload_n 0, 1) := by decide +kernel
theorem dX5_size_1 : decode cX5_size 1 = .ok (.getfield 21, 3) := by decide +kernel
theorem dX5_size_4 : decode cX5_size 4 = .ok (.ireturn, 1) := by decide +kernel
theorem dX5_holds_0 : decode cX5_holds 0 = .ok (.iload_n 1, 1) := by decide +kernel
theorem dX5_holds_1 : decode cX5_holds 1 = .ok (.ifCond .lt 24, 3) := by decide +kernel
theorem dX5_holds_4 : decode cX5_holds 4 = .ok (.iload_n 1, 1) := by decide +kernel
theorem dX5_holds_5 : decode cX5_holds 5 = .ok (.aload_n 0, 1) := by decide +kernel
theorem dX5_holds_6 : decode cX5_holds 6 = .ok (.getfield 21, 3) := by decide +kernel
theorem dX5_holds_9 : decode cX5_holds 9 = .ok (.if_icmp .ge 16, 3) := by decide +kernel
theorem dX5_holds_12 : decode cX5_holds 12 = .ok (.iload_n 1, 1) := by decide +kernel
theorem dX5_holds_13 : decode cX5_holds 13 = .ok (.aload_n 0, 1) := by decide +kernel
theorem dX5_holds_14 : decode cX5_holds 14 = .ok (.getfield 15, 3) := by decide +kernel
theorem dX5_holds_17 : decode cX5_holds 17 = .ok (.arraylength, 1) := by decide +kernel
theorem dX5_holds_18 : decode cX5_holds 18 = .ok (.if_icmp .ge 7, 3) := by decide +kernel
theorem dX5_holds_21 : decode cX5_holds 21 = .ok (.iconst 1, 1) := by decide +kernel
theorem dX5_holds_22 : decode cX5_holds 22 = .ok (.goto 4, 3) := by decide +kernel
theorem dX5_holds_25 : decode cX5_holds 25 = .ok (.iconst 0, 1) := by decide +kernel
theorem dX5_holds_26 : decode cX5_holds 26 = .ok (.ireturn, 1) := by decide +kernel
set_option maxRecDepth 20000 in
theorem ggX5_at_X5_holds : GoodIn wsX5_at wsX5_holds := goodIn_r _ [6, 7, 1, 8, 9] (by decide +kernel) (by decide +kernel)
set_option maxRecDepth 20000 in
theorem gX5_at_X5_holds : GoodIn wsX5_at (wsV RX5 25 RX5 yX5_holds wsX5_holds) := goodIn_app (goodIn_of _ (by decide +kernel)) ggX5_at_X5_holds
theorem dX5_at_0 : decode cX5_at 0 = .ok (.aload_n 0, 1) := by decide +kernel
theorem dX5_at_1 : decode cX5_at 1 = .ok (.iload_n 1, 1) := by decide +kernel
theorem dX5_at_2 : decode cX5_at 2 = .ok (.invokevirtual 25, 3) := by decide +kernel
theorem dX5_at_5 : decode cX5_at 5 = .ok (.ifCond .eq 12, 3) := by decide +kernel
theorem dX5_at_8 : decode cX5_at 8 = .ok (.aload_n 0, 1) := by decide +kernel
theorem dX5_at_9 : decode cX5_at 9 = .ok (.getfield 15, 3) := by decide +kernel
theorem dX5_at_12 : decode cX5_at 12 = .ok (.iload_n 1, 1) := by decide +kernel
theorem dX5_at_13 : decode cX5_at 13 = .ok (.iaload, 1) := by decide +kernel
theorem dX5_at_14 : decode cX5_at 14 = .ok (.goto 4, 3) := by decide +kernel
theorem dX5_at_17 : decode cX5_at 17 = .ok (.iconst (-1), 1) := by decide +kernel
theorem dX5_at_18 : decode cX5_at 18 = .ok (.ireturn, 1) := by decide +kernel
theorem dX5_indexOf_0 : decode cX5_indexOf 0 = .ok (.iconst 0, 1) := by decide +kernel
theorem dX5_indexOf_1 : decode cX5_indexOf 1 = .ok (.istore_n 2, 1) := by decide +kernel
theorem dX5_indexOf_2 : decode cX5_indexOf 2 = .ok (.iload_n 2, 1) := by decide +kernel
theorem dX5_indexOf_3 : decode cX5_indexOf 3 = .ok (.aload_n 0, 1) := by decide +kernel
theorem dX5_indexOf_4 : decode cX5_indexOf 4 = .ok (.getfield 21, 3) := by decide +kernel
theorem dX5_indexOf_7 : decode cX5_indexOf 7 = .ok (.if_icmp .ge 30, 3) := by decide +kernel
theorem dX5_indexOf_10 : decode cX5_indexOf 10 = .ok (.iload_n 2, 1) := by decide +kernel
theorem dX5_indexOf_11 : decode cX5_indexOf 11 = .ok (.aload_n 0, 1) := by decide +kernel
theorem dX5_indexOf_12 : decode cX5_indexOf 12 = .ok (.getfield 15, 3) := by decide +kernel
theorem dX5_indexOf_15 : decode cX5_indexOf 15 = .ok (.arraylength, 1) := by decide +kernel
theorem dX5_indexOf_16 : decode cX5_indexOf 16 = .ok (.if_icmp .ge 21, 3) := by decide +kernel
theorem dX5_indexOf_19 : decode cX5_indexOf 19 = .ok (.aload_n 0, 1) := by decide +kernel
theorem dX5_indexOf_20 : decode cX5_indexOf 20 = .ok (.getfield 15, 3) := by decide +kernel
theorem dX5_indexOf_23 : decode cX5_indexOf 23 = .ok (.iload_n 2, 1) := by decide +kernel
theorem dX5_indexOf_24 : decode cX5_indexOf 24 = .ok (.iaload, 1) := by decide +kernel
theorem dX5_indexOf_25 : decode cX5_indexOf 25 = .ok (.iload_n 1, 1) := by decide +kernel
theorem dX5_indexOf_26 : decode cX5_indexOf 26 = .ok (.if_icmp .ne 5, 3) := by decide +kernel
theorem dX5_indexOf_29 : decode cX5_indexOf 29 = .ok (.iload_n 2, 1) := by decide +kernel
theorem dX5_indexOf_30 : decode cX5_indexOf 30 = .ok (.ireturn, 1) := by decide +kernel
theorem dX5_indexOf_31 : decode cX5_indexOf 31 = .ok (.iinc 2 1, 3) := by decide +kernel
theorem dX5_indexOf_34 : decode cX5_indexOf 34 = .ok (.goto (-32), 3) := by decide +kernel
theorem dX5_indexOf_37 : decode cX5_indexOf 37 = .ok (.iconst (-1), 1) := by decide +kernel
theorem dX5_indexOf_38 : decode cX5_indexOf 38 = .ok (.ireturn, 1) := by decide +kernel
theorem dX5_clear_0 : decode cX5_clear 0 = .ok (.aload_n 0, 1) := by decide +kernel
theorem dX5_clear_1 : decode cX5_clear 1 = .ok (.iconst 0, 1) := by decide +kernel
theorem dX5_clear_2 : decode cX5_clear 2 = .ok (.putfield 21, 3) := by decide +kernel
theorem dX5_clear_5 : decode cX5_clear 5 = .ok (.return_, 1) := by decide +kernel
set_option maxRecDepth 20000 in
theorem ggX5_append_X5_insert : GoodIn wsX5_append wsX5_insert := goodIn_r _ [6, 1, 7, 8, 9] (by decide +kernel) (by decide +kernel)
set_option maxRecDepth 20000 in
theorem gX5_append_X5_insert : GoodIn wsX5_append (wsV RX5 29 RX5 yX5_insert wsX5_insert) := goodIn_app (goodIn_of _ (by decide +kernel)) ggX5_append_X5_insert
theorem dX5_append_0 : decode cX5_append 0 = .ok (.aload_n 0, 1) := by decide +kernel
theorem dX5_append_1 : decode cX5_append 1 = .ok (.aload_n 0, 1) := by decide +kernel
theorem dX5_append_2 : decode cX5_append 2 = .ok (.getfield 21, 3) := by decide +kernel
theorem dX5_append_5 : decode cX5_append 5 = .ok (.iload_n 1, 1) := by decide +kernel
theorem dX5_append_6 : decode cX5_append 6 = .ok (.invokevirtual 29, 3) := by decide +kernel
theorem dX5_append_9 : decode cX5_append 9 = .ok (.return_, 1) := by decide +kernel
theorem dX5_insert_0 : decode cX5_insert 0 = .ok (.iload_n 1, 1) := by decide +kernel
theorem dX5_insert_1 : decode cX5_insert 1 = .ok (.ifCond .lt 23, 3) := by decide +kernel
theorem dX5_insert_4 : decode cX5_insert 4 = .ok (.iload_n 1, 1) := by decide +kernel
theorem dX5_insert_5 : decode cX5_insert 5 = .ok (.aload_n 0, 1) := by decide +kernel
theorem dX5_insert_6 : decode cX5_insert 6 = .ok (.getfield 21, 3) := by decide +kernel
theorem dX5_insert_9 : decode cX5_insert 9 = .ok (.if_icmp .gt 15, 3) := by decide +kernel
theorem dX5_insert_12 : decode cX5_insert 12 = .ok (.aload_n 0, 1) := by decide +kernel
theorem dX5_insert_13 : decode cX5_insert 13 = .ok (.getfield 21, 3) := by decide +kernel
theorem dX5_insert_16 : decode cX5_insert 16 = .ok (.aload_n 0, 1) := by decide +kernel
theorem dX5_insert_17 : decode cX5_insert 17 = .ok (.getfield 15, 3) := by decide +kernel
theorem dX5_insert_20 : decode cX5_insert 20 = .ok (.arraylength, 1) := by decide +kernel
theorem dX5_insert_21 : decode cX5_insert 21 = .ok (.if_icmp .lt 4, 3) := by decide +kernel
theorem dX5_insert_24 : decode cX5_insert 24 = .ok (.return_, 1) := by decide +kernel
theorem dX5_insert_25 : decode cX5_insert 25 = .ok (.aload_n 0, 1) := by decide +kernel
theorem dX5_insert_26 : decode cX5_insert 26 = .ok (.getfield 21, 3) := by decide +kernel
theorem dX5_insert_29 : decode cX5_insert 29 = .ok (.istore_n 3, 1) := by decide +kernel
theorem dX5_insert_30 : decode cX5_insert 30 = .ok (.iload_n 3, 1) := by decide +kernel
theorem dX5_insert_31 : decode cX5_insert 31 = .ok (.iload_n 1, 1) := by decide +kernel
theorem dX5_insert_32 : decode cX5_insert 32 = .ok (.if_icmp .le 23, 3) := by decide +kernel
theorem dX5_insert_35 : decode cX5_insert 35 = .ok (.aload_n 0, 1) := by decide +kernel
theorem dX5_insert_36 : decode cX5_insert 36 = .ok (.getfield 15, 3) := by decide +kernel
theorem dX5_insert_39 : decode cX5_insert 39 = .ok (.iload_n 3, 1) := by decide +kernel
theorem dX5_insert_40 : decode cX5_insert 40 = .ok (.aload_n 0, 1) := by decide +kernel
theorem dX5_insert_41 : decode cX5_insert 41 = .ok (.getfield 15, 3) := by decide +kernel
theorem dX5_insert_44 : decode cX5_insert 44 = .ok (.iload_n 3, 1) := by decide +kernel
theorem dX5_insert_45 : decode cX5_insert 45 = .ok (.iconst 1, 1) := by decide +kernel
theorem dX5_insert_46 : decode cX5_insert 46 = .ok (.isub, 1) := by decide +kernel
theorem dX5_insert_47 : decode cX5_insert 47 = .ok (.iaload, 1) := by decide +kernel
theorem dX5_insert_48 : decode cX5_insert 48 = .ok (.iastore, 1) := by decide +kernel
theorem dX5_insert_49 : decode cX5_insert 49 = .ok (.iinc 3 (-1), 3) := by decide +kernel
theorem dX5_insert_52 : decode cX5_insert 52 = .ok (.goto (-22), 3) := by decide +kernel
theorem dX5_insert_55 : decode cX5_insert 55 = .ok (.aload_n 0, 1) := by decide +kernel
theorem dX5_insert_56 : decode cX5_insert 56 = .ok (.getfield 15, 3) := by decide +kernel
theorem dX5_insert_59 : decode cX5_insert 59 = .ok (.iload_n 1, 1) := by decide +kernel
theorem dX5_insert_60 : decode cX5_insert 60 = .ok (.iload_n 2, 1) := by decide +kernel
theorem dX5_insert_61 : decode cX5_insert 61 = .ok (.iastore, 1) := by decide +kernel
theorem dX5_insert_62 : decode cX5_insert 62 = .ok (.aload_n 0, 1) := by decide +kernel
theorem dX5_insert_63 : decode cX5_insert 63 = .ok (.dup, 1) := by decide +kernel
theorem dX5_insert_64 : decode cX5_insert 64 = .ok (.getfield 21, 3) := by decide +kernel
theorem dX5_insert_67 : decode cX5_insert 67 = .ok (.iconst 1, 1) := by decide +kernel
theorem dX5_insert_68 : decode cX5_insert 68 = .ok (.iadd, 1) := by decide +kernel
theorem dX5_insert_69 : decode cX5_insert 69 = .ok (.putfield 21, 3) := by decide +kernel
theorem dX5_insert_72 : decode cX5_insert 72 = .ok (.return_, 1) := by decide +kernel
set_option maxRecDepth 20000 in
theorem ggX5_removeAt_X5_holds : GoodIn wsX5_removeAt wsX5_holds := goodIn_r _ [7, 1, 2, 8, 9] (by decide +kernel) (by decide +kernel)
set_option maxRecDepth 20000 in
theorem gX5_removeAt_X5_holds : GoodIn wsX5_removeAt (wsV RX5 25 RX5 yX5_holds wsX5_holds) := goodIn_app (goodIn_of _ (by decide +kernel)) ggX5_removeAt_X5_holds
theorem dX5_removeAt_0 : decode cX5_removeAt 0 = .ok (.aload_n 0, 1) := by decide +kernel
theorem dX5_removeAt_1 : decode cX5_removeAt 1 = .ok (.iload_n 1, 1) := by decide +kernel
theorem dX5_removeAt_2 : decode cX5_removeAt 2 = .ok (.invokevirtual 25, 3) := by decide +kernel
theorem dX5_removeAt_5 : decode cX5_removeAt 5 = .ok (.ifCond .ne 4, 3) := by decide +kernel
theorem dX5_removeAt_8 : decode cX5_removeAt 8 = .ok (.return_, 1) := by decide +kernel
theorem dX5_removeAt_9 : decode cX5_removeAt 9 = .ok (.iload_n 1, 1) := by decide +kernel
theorem dX5_removeAt_10 : decode cX5_removeAt 10 = .ok (.istore_n 2, 1) := by decide +kernel
theorem dX5_removeAt_11 : decode cX5_removeAt 11 = .ok (.iload_n 2, 1) := by decide +kernel
theorem dX5_removeAt_12 : decode cX5_removeAt 12 = .ok (.iconst 1, 1) := by decide +kernel
theorem dX5_removeAt_13 : decode cX5_removeAt 13 = .ok (.iadd, 1) := by decide +kernel
theorem dX5_removeAt_14 : decode cX5_removeAt 14 = .ok (.aload_n 0, 1) := by decide +kernel
theorem dX5_removeAt_15 : decode cX5_removeAt 15 = .ok (.getfield 21, 3) := by decide +kernel
theorem dX5_removeAt_18 : decode cX5_removeAt 18 = .ok (.if_icmp .ge 34, 3) := by decide +kernel
theorem dX5_removeAt_21 : decode cX5_removeAt 21 = .ok (.iload_n 2, 1) := by decide +kernel
theorem dX5_removeAt_22 : decode cX5_removeAt 22 = .ok (.iconst 1, 1) := by decide +kernel
theorem dX5_removeAt_23 : decode cX5_removeAt 23 = .ok (.iadd, 1) := by decide +kernel
theorem dX5_removeAt_24 : decode cX5_removeAt 24 = .ok (.aload_n 0, 1) := by decide +kernel
theorem dX5_removeAt_25 : decode cX5_removeAt 25 = .ok (.getfield 15, 3) := by decide +kernel
theorem dX5_removeAt_28 : decode cX5_removeAt 28 = .ok (.arraylength, 1) := by decide +kernel
theorem dX5_removeAt_29 : decode cX5_removeAt 29 = .ok (.if_icmp .ge 23, 3) := by decide +kernel
theorem dX5_removeAt_32 : decode cX5_removeAt 32 = .ok (.aload_n 0, 1) := by decide +kernel
theorem dX5_removeAt_33 : decode cX5_removeAt 33 = .ok (.getfield 15, 3) := by decide +kernel
theorem dX5_removeAt_36 : decode cX5_removeAt 36 = .ok (.iload_n 2, 1) := by decide +kernel
theorem dX5_removeAt_37 : decode cX5_removeAt 37 = .ok (.aload_n 0, 1) := by decide +kernel
theorem dX5_removeAt_38 : decode cX5_removeAt 38 = .ok (.getfield 15, 3) := by decide +kernel
theorem dX5_removeAt_41 : decode cX5_removeAt 41 = .ok (.iload_n 2, 1) := by decide +kernel
theorem dX5_removeAt_42 : decode cX5_removeAt 42 = .ok (.iconst 1, 1) := by decide +kernel
theorem dX5_removeAt_43 : decode cX5_removeAt 43 = .ok (.iadd, 1) := by decide +kernel
theorem dX5_removeAt_44 : decode cX5_removeAt 44 = .ok (.iaload, 1) := by decide +kernel
theorem dX5_removeAt_45 : decode cX5_removeAt 45 = .ok (.iastore, 1) := by decide +kernel
theorem dX5_removeAt_46 : decode cX5_removeAt 46 = .ok (.iinc 2 1, 3) := by decide +kernel
theorem dX5_removeAt_49 : decode cX5_removeAt 49 = .ok (.goto (-38), 3) := by decide +kernel
theorem dX5_removeAt_52 : decode cX5_removeAt 52 = .ok (.aload_n 0, 1) := by decide +kernel
theorem dX5_removeAt_53 : decode cX5_removeAt 53 = .ok (.dup, 1) := by decide +kernel
theorem dX5_removeAt_54 : decode cX5_removeAt 54 = .ok (.getfield 21, 3) := by decide +kernel
theorem dX5_removeAt_57 : decode cX5_removeAt 57 = .ok (.iconst 1, 1) := by decide +kernel
theorem dX5_removeAt_58 : decode cX5_removeAt 58 = .ok (.isub, 1) := by decide +kernel
theorem dX5_removeAt_59 : decode cX5_removeAt 59 = .ok (.putfield 21, 3) := by decide +kernel
theorem dX5_removeAt_62 : decode cX5_removeAt 62 = .ok (.return_, 1) := by decide +kernel
set_option maxRecDepth 20000 in
theorem ggX5_exchange_X5_holds : GoodIn wsX5_exchange wsX5_holds := goodIn_r _ [6, 7, 1, 8, 9] (by decide +kernel) (by decide +kernel)
set_option maxRecDepth 20000 in
theorem gX5_exchange_X5_holds : GoodIn wsX5_exchange (wsV RX5 25 RX5 yX5_holds wsX5_holds) := goodIn_app (goodIn_of _ (by decide +kernel)) ggX5_exchange_X5_holds
theorem dX5_exchange_0 : decode cX5_exchange 0 = .ok (.aload_n 0, 1) := by decide +kernel
theorem dX5_exchange_1 : decode cX5_exchange 1 = .ok (.iload_n 1, 1) := by decide +kernel
theorem dX5_exchange_2 : decode cX5_exchange 2 = .ok (.invokevirtual 25, 3) := by decide +kernel
theorem dX5_exchange_5 : decode cX5_exchange 5 = .ok (.ifCond .eq 11, 3) := by decide +kernel
theorem dX5_exchange_8 : decode cX5_exchange 8 = .ok (.aload_n 0, 1) := by decide +kernel
theorem dX5_exchange_9 : decode cX5_exchange 9 = .ok (.iload_n 2, 1) := by decide +kernel
theorem dX5_exchange_10 : decode cX5_exchange 10 = .ok (.invokevirtual 25, 3) := by decide +kernel
theorem dX5_exchange_13 : decode cX5_exchange 13 = .ok (.ifCond .ne 4, 3) := by decide +kernel
theorem dX5_exchange_16 : decode cX5_exchange 16 = .ok (.return_, 1) := by decide +kernel
theorem dX5_exchange_17 : decode cX5_exchange 17 = .ok (.aload_n 0, 1) := by decide +kernel
theorem dX5_exchange_18 : decode cX5_exchange 18 = .ok (.getfield 15, 3) := by decide +kernel
theorem dX5_exchange_21 : decode cX5_exchange 21 = .ok (.iload_n 1, 1) := by decide +kernel
theorem dX5_exchange_22 : decode cX5_exchange 22 = .ok (.iaload, 1) := by decide +kernel
theorem dX5_exchange_23 : decode cX5_exchange 23 = .ok (.istore_n 3, 1) := by decide +kernel
theorem dX5_exchange_24 : decode cX5_exchange 24 = .ok (.aload_n 0, 1) := by decide +kernel
theorem dX5_exchange_25 : decode cX5_exchange 25 = .ok (.getfield 15, 3) := by decide +kernel
theorem dX5_exchange_28 : decode cX5_exchange 28 = .ok (.iload_n 1, 1) := by decide +kernel
theorem dX5_exchange_29 : decode cX5_exchange 29 = .ok (.aload_n 0, 1) := by decide +kernel
theorem dX5_exchange_30 : decode cX5_exchange 30 = .ok (.getfield 15, 3) := by decide +kernel
theorem dX5_exchange_33 : decode cX5_exchange 33 = .ok (.iload_n 2, 1) := by decide +kernel
theorem dX5_exchange_34 : decode cX5_exchange 34 = .ok (.iaload, 1) := by decide +kernel
theorem dX5_exchange_35 : decode cX5_exchange 35 = .ok (.iastore, 1) := by decide +kernel
theorem dX5_exchange_36 : decode cX5_exchange 36 = .ok (.aload_n 0, 1) := by decide +kernel
theorem dX5_exchange_37 : decode cX5_exchange 37 = .ok (.getfield 15, 3) := by decide +kernel
theorem dX5_exchange_40 : decode cX5_exchange 40 = .ok (.iload_n 2, 1) := by decide +kernel
theorem dX5_exchange_41 : decode cX5_exchange 41 = .ok (.iload_n 3, 1) := by decide +kernel
theorem dX5_exchange_42 : decode cX5_exchange 42 = .ok (.iastore, 1) := by decide +kernel
theorem dX5_exchange_43 : decode cX5_exchange 43 = .ok (.return_, 1) := by decide +kernel
theorem dX6_init_0 : decode cX6_init 0 = .ok (.aload_n 0, 1) := by decide +kernel
theorem dX6_init_1 : decode cX6_init 1 = .ok (.invokespecial 1, 3) := by decide +kernel
theorem dX6_init_4 : decode cX6_init 4 = .ok (.aload_n 0, 1) := by decide +kernel
theorem dX6_init_5 : decode cX6_init 5 = .ok (.iconst 0, 1) := by decide +kernel
theorem dX6_init_6 : decode cX6_init 6 = .ok (.iload_n 1, 1) := by decide +kernel
theorem dX6_init_7 : decode cX6_init 7 = .ok (.invokestatic 7, 3) := by decide +kernel
theorem dX6_init_10 : decode cX6_init 10 = .ok (.newarray .int, 2) := by decide +kernel
theorem dX6_init_12 : decode cX6_init 12 = .ok (.putfield 13, 3) := by decide +kernel
theorem dX6_init_15 : decode cX6_init 15 = .ok (.aload_n 0, 1) := by decide +kernel
theorem dX6_init_16 : decode cX6_init 16 = .ok (.iload_n 2, 1) := by decide +kernel
theorem dX6_init_17 : decode cX6_init 17 = .ok (.putfield 19, 3) := by decide +kernel
theorem dX6_init_20 : decode cX6_init 20 = .ok (.iconst 0, 1) := by decide +kernel
theorem dX6_init_21 : decode cX6_init 21 = .ok (.istore_n 3, 1) := by decide +kernel
theorem dX6_init_22 : decode cX6_init 22 = .ok (.iload_n 3, 1) := by decide +kernel
theorem dX6_init_23 : decode cX6_init 23 = .ok (.aload_n 0, 1) := by decide +kernel
theorem dX6_init_24 : decode cX6_init 24 = .ok (.getfield 13, 3) := by decide +kernel
theorem dX6_init_27 : decode cX6_init 27 = .ok (.arraylength, 1) := by decide +kernel
theorem dX6_init_28 : decode cX6_init 28 = .ok (.if_icmp .ge 16, 3) := by decide +kernel
theorem dX6_init_31 : decode cX6_init 31 = .ok (.aload_n 0, 1) := by decide +kernel
theorem dX6_init_32 : decode cX6_init 32 = .ok (.getfield 13, 3) := by decide +kernel
theorem dX6_init_35 : decode cX6_init 35 = .ok (.iload_n 3, 1) := by decide +kernel
theorem dX6_init_36 : decode cX6_init 36 = .ok (.iload_n 2, 1) := by decide +kernel
theorem dX6_init_37 : decode cX6_init 37 = .ok (.iastore, 1) := by decide +kernel
theorem dX6_init_38 : decode cX6_init 38 = .ok (.iinc 3 1, 3) := by decide +kernel
theorem dX6_init_41 : decode cX6_init 41 = .ok (.goto (-19), 3) := by decide +kernel
theorem dX6_init_44 : decode cX6_init 44 = .ok (.return_, 1) := by decide +kernel
theorem dX6_get_0 : decode cX6_get 0 = .ok (.iload_n 1, 1) := by decide +kernel
theorem dX6_get_1 : decode cX6_get 1 = .ok (.ifCond .lt 21, 3) := by decide +kernel
theorem dX6_get_4 : decode cX6_get 4 = .ok (.iload_n 1, 1) := by decide +kernel
theorem dX6_get_5 : decode cX6_get 5 = .ok (.aload_n 0, 1) := by decide +kernel
theorem dX6_get_6 : decode cX6_get 6 = .ok (.getfield 13, 3) := by decide +kernel
theorem dX6_get_9 : decode cX6_get 9 = .ok (.arraylength, 1) := by decide +kernel
theorem dX6_get_10 : decode cX6_get 10 = .ok (.if_icmp .ge 12, 3) := by decide +kernel
theorem dX6_get_13 : decode cX6_get 13 = .ok (.aload_n 0, 1) := by decide +kernel
theorem dX6_get_14 : decode cX6_get 14 = .ok (.getfield 13, 3) := by decide +kernel
theorem dX6_get_17 : decode cX6_get 17 = .ok (.iload_n 1, 1) := by decide +kernel
theorem dX6_get_18 : decode cX6_get 18 = .ok (.iaload, 1) := by decide +kernel
theorem dX6_get_19 : decode cX6_get 19 = .ok (.goto 7, 3) := by decide +kernel
theorem dX6_get_22 : decode cX6_get 22 = .ok (.aload_n 0, 1) := by decide +kernel
theorem dX6_get_23 : decode cX6_get 23 = .ok (.getfield 19, 3) := by decide +kernel
theorem dX6_get_26 : decode cX6_get 26 = .ok (.ireturn, 1) := by decide +kernel
theorem dX6_put_0 : decode cX6_put 0 = .ok (.iload_n 1, 1) := by decide +kernel
theorem dX6_put_1 : decode cX6_put 1 = .ok (.ifCond .lt 19, 3) := by decide +kernel
theorem dX6_put_4 : decode cX6_put 4 = .ok (.iload_n 1, 1) := by decide +kernel
theorem dX6_put_5 : decode cX6_put 5 = .ok (.aload_n 0, 1) := by decide +kernel
theorem dX6_put_6 : decode cX6_put 6 = .ok (.getfield 13, 3) := by decide +kernel
theorem dX6_put_9 : decode cX6_put 9 = .ok (.arraylength, 1) := by decide +kernel
theorem dX6_put_10 : decode cX6_put 10 = .ok (.if_icmp .ge 10, 3) := by decide +kernel
theorem dX6_put_13 : decode cX6_put 13 = .ok (.aload_n 0, 1) := by decide +kernel
theorem dX6_put_14 : decode cX6_put 14 = .ok (.getfield 13, 3) := by decide +kernel
theorem dX6_put_17 : decode cX6_put 17 = .ok (.iload_n 1, 1) := by decide +kernel
theorem dX6_put_18 : decode cX6_put 18 = .ok (.iload_n 2, 1) := by decide +kernel
theorem dX6_put_19 : decode cX6_put 19 = .ok (.iastore, 1) := by decide +kernel
theorem dX6_put_20 : decode cX6_put 20 = .ok (.return_, 1) := by decide +kernel
set_option maxRecDepth 20000 in
theorem ggX6_add_X6_get : GoodIn wsX6_add wsX6_get := goodIn_r _ [5, 6, 7, 12, 13] (by decide +kernel) (by decide +kernel)
set_option maxRecDepth 20000 in
theorem gX6_add_X6_get : GoodIn wsX6_add (wsV RX6 23 RX6 yX6_get wsX6_get) := goodIn_app (goodIn_of _ (by decide +kernel)) ggX6_add_X6_get
set_option maxRecDepth 20000 in
theorem ggX6_add_X6_put : GoodIn wsX6_add wsX6_put := goodIn_r _ [11, 6, 12, 13] (by decide +kernel) (by decide +kernel)
set_option maxRecDepth 20000 in
theorem gX6_add_X6_put : GoodIn wsX6_add (wsV RX6 27 RX6 yX6_put wsX6_put) := goodIn_app (goodIn_of _ (by decide +kernel)) ggX6_add_X6_put
theorem dX6_add_0 : decode cX6_add 0 = .ok (.aload_n 0, 1) := by decide +kernel
theorem dX6_add_1 : decode cX6_add 1 = .ok (.iload_n 1, 1) := by decide +kernel
theorem dX6_add_2 : decode cX6_add 2 = .ok (.aload_n 0, 1) := by decide +kernel
theorem dX6_add_3 : decode cX6_add 3 = .ok (.iload_n 1, 1) := by decide +kernel
theorem dX6_add_4 : decode cX6_add 4 = .ok (.invokevirtual 23, 3) := by decide +kernel
theorem dX6_add_7 : decode cX6_add 7 = .ok (.iload_n 2, 1) := by decide +kernel
theorem dX6_add_8 : decode cX6_add 8 = .ok (.iadd, 1) := by decide +kernel
theorem dX6_add_9 : decode cX6_add 9 = .ok (.invokevirtual 27, 3) := by decide +kernel
theorem dX6_add_12 : decode cX6_add 12 = .ok (.return_, 1) := by decide +kernel
theorem dX6_wipe_0 : decode cX6_wipe 0 = .ok (.iconst 0, 1) := by decide +kernel
theorem dX6_wipe_1 : decode cX6_wipe 1 = .ok (.istore_n 1, 1) := by decide +kernel
theorem dX6_wipe_2 : decode cX6_wipe 2 = .ok (.iload_n 1, 1) := by decide +kernel
theorem dX6_wipe_3 : decode cX6_wipe 3 = .ok (.aload_n 0, 1) := by decide +kernel
theorem dX6_wipe_4 : decode cX6_wipe 4 = .ok (.getfield 13, 3) := by decide +kernel
theorem dX6_wipe_7 : decode cX6_wipe 7 = .ok (.arraylength, 1) := by decide +kernel
theorem dX6_wipe_8 : decode cX6_wipe 8 = .ok (.if_icmp .ge 19, 3) := by decide +kernel
theorem dX6_wipe_11 : decode cX6_wipe 11 = .ok (.aload_n 0, 1) := by decide +kernel
theorem dX6_wipe_12 : decode cX6_wipe 12 = .ok (.getfield 13, 3) := by decide +kernel
theorem dX6_wipe_15 : decode cX6_wipe 15 = .ok (.iload_n 1, 1) := by decide +kernel
theorem dX6_wipe_16 : decode cX6_wipe 16 = .ok (.aload_n 0, 1) := by decide +kernel
theorem dX6_wipe_17 : decode cX6_wipe 17 = .ok (.getfield 19, 3) := by decide +kernel
theorem dX6_wipe_20 : decode cX6_wipe 20 = .ok (.iastore, 1) := by decide +kernel
theorem dX6_wipe_21 : decode cX6_wipe 21 = .ok (.iinc 1 1, 3) := by decide +kernel
theorem dX6_wipe_24 : decode cX6_wipe 24 = .ok (.goto (-22), 3) := by decide +kernel
theorem dX6_wipe_27 : decode cX6_wipe 27 = .ok (.return_, 1) := by decide +kernel
set_option maxRecDepth 20000 in
theorem ggX7_init_X6_init : GoodIn wsX7_init wsX6_init := goodIn_r _ [14, 15, 2, 3, 16, 17, 18, 19, 20, 21, 22, 23, 24] (by decide +kernel) (by decide +kernel)
set_option maxRecDepth 20000 in
theorem gX7_init_X6_init : GoodIn wsX7_init (wsX6_init) := ggX7_init_X6_init
theorem dX7_init_0 : decode cX7_init 0 = .ok (.aload_n 0, 1) := by decide +kernel
theorem dX7_init_1 : decode cX7_init 1 = .ok (.invokespecial 3, 3) := by decide +kernel
theorem dX7_init_4 : decode cX7_init 4 = .ok (.aload_n 0, 1) := by decide +kernel
theorem dX7_init_5 : decode cX7_init 5 = .ok (.new 9, 3) := by decide +kernel
theorem dX7_init_8 : decode cX7_init 8 = .ok (.dup, 1) := by decide +kernel
theorem dX7_init_9 : decode cX7_init 9 = .ok (.bipush 24, 2) := by decide +kernel
theorem dX7_init_11 : decode cX7_init 11 = .ok (.iconst (-1), 1) := by decide +kernel
theorem dX7_init_12 : decode cX7_init 12 = .ok (.invokespecial 11, 3) := by decide +kernel
theorem dX7_init_15 : decode cX7_init 15 = .ok (.putfield 14, 3) := by decide +kernel
theorem dX7_init_18 : decode cX7_init 18 = .ok (.aload_n 0, 1) := by decide +kernel
theorem dX7_init_19 : decode cX7_init 19 = .ok (.new 9, 3) := by decide +kernel
theorem dX7_init_22 : decode cX7_init 22 = .ok (.dup, 1) := by decide +kernel
theorem dX7_init_23 : decode cX7_init 23 = .ok (.bipush 24, 2) := by decide +kernel
theorem dX7_init_25 : decode cX7_init 25 = .ok (.iconst 0, 1) := by decide +kernel
theorem dX7_init_26 : decode cX7_init 26 = .ok (.invokespecial 11, 3) := by decide +kernel
theorem dX7_init_29 : decode cX7_init 29 = .ok (.putfield 20, 3) := by decide +kernel
theorem dX7_init_32 : decode cX7_init 32 = .ok (.aload_n 0, 1) := by decide +kernel
theorem dX7_init_33 : decode cX7_init 33 = .ok (.new 9, 3) := by decide +kernel
theorem dX7_init_36 : decode cX7_init 36 = .ok (.dup, 1) := by decide +kernel
theorem dX7_init_37 : decode cX7_init 37 = .ok (.bipush 24, 2) := by decide +kernel
theorem dX7_init_39 : decode cX7_init 39 = .ok (.iconst 0, 1) := by decide +kernel
theorem dX7_init_40 : decode cX7_init 40 = .ok (.invokespecial 11, 3) := by decide +kernel
theorem dX7_init_43 : decode cX7_init 43 = .ok (.putfield 23, 3) := by decide +kernel
theorem dX7_init_46 : decode cX7_init 46 = .ok (.aload_n 0, 1) := by decide +kernel
theorem dX7_init_47 : decode cX7_init 47 = .ok (.new 9, 3) := by decide +kernel
theorem dX7_init_50 : decode cX7_init 50 = .ok (.dup, 1) := by decide +kernel
theorem dX7_init_51 : decode cX7_init 51 = .ok (.bipush 24, 2) := by decide +kernel
theorem dX7_init_53 : decode cX7_init 53 = .ok (.iconst 0, 1) := by decide +kernel
theorem dX7_init_54 : decode cX7_init 54 = .ok (.invokespecial 11, 3) := by decide +kernel
theorem dX7_init_57 : decode cX7_init 57 = .ok (.putfield 26, 3) := by decide +kernel
theorem dX7_init_60 : decode cX7_init 60 = .ok (.aload_n 0, 1) := by decide +kernel
theorem dX7_init_61 : decode cX7_init 61 = .ok (.new 9, 3) := by decide +kernel
theorem dX7_init_64 : decode cX7_init 64 = .ok (.dup, 1) := by decide +kernel
theorem dX7_init_65 : decode cX7_init 65 = .ok (.bipush 24, 2) := by decide +kernel
theorem dX7_init_67 : decode cX7_init 67 = .ok (.iconst 0, 1) := by decide +kernel
theorem dX7_init_68 : decode cX7_init 68 = .ok (.invokespecial 11, 3) := by decide +kernel
theorem dX7_init_71 : decode cX7_init 71 = .ok (.putfield 29, 3) := by decide +kernel
theorem dX7_init_74 : decode cX7_init 74 = .ok (.return_, 1) := by decide +kernel
set_option maxRecDepth 20000 in
theorem ggX7_openDay_X7_openYear : GoodIn wsX7_openDay wsX7_openYear := goodIn_r _ [6, 7, 8, 9, 10, 11, 12, 13, 14, 15, 16, 17, 18, 19, 20, 21, 22, 23, 24, 25, 26, 27, 28, 29, 30, 31, 32, 33, 34, 35, 36, 37, 38] (by decide +kernel) (by decide +kernel)
set_option maxRecDepth 20000 in
theorem gX7_openDay_X7_openYear : GoodIn wsX7_openDay (wsV RX7 32 RX7 yX7_openYear wsX7_openYear) := goodIn_app (goodIn_of _ (by decide +kernel)) ggX7_openDay_X7_openYear
set_option maxRecDepth 20000 in
theorem ggX7_openDay_X5_size : GoodIn wsX7_openDay wsX5_size := goodIn_r _ [13, 14, 35, 36] (by decide +kernel) (by decide +kernel)
set_option maxRecDepth 20000 in
theorem gX7_openDay_X5_size : GoodIn wsX7_openDay (wsV RX7 36 RX5 yX5_size wsX5_size) := goodIn_app (goodIn_of _ (by decide +kernel)) ggX7_openDay_X5_size
set_option maxRecDepth 20000 in
theorem ggX7_openDay_X5_at : GoodIn wsX7_openDay wsX5_at := goodIn_r _ [18, 19, 20, 21, 22, 12, 23, 14, 35, 36] (by decide +kernel) (by decide +kernel)
set_option maxRecDepth 20000 in
theorem gX7_openDay_X5_at : GoodIn wsX7_openDay (wsV RX7 42 RX5 yX5_at wsX5_at) := goodIn_app (goodIn_of _ (by decide +kernel)) ggX7_openDay_X5_at
set_option maxRecDepth 20000 in
theorem ggX7_openDay_X6_put : GoodIn wsX7_openDay wsX6_put := goodIn_r _ [28, 29, 37, 38] (by decide +kernel) (by decide +kernel)
set_option maxRecDepth 20000 in
theorem gX7_openDay_X6_put : GoodIn wsX7_openDay (wsV RX7 46 RX6 yX6_put wsX6_put) := goodIn_app (goodIn_of _ (by decide +kernel)) ggX7_openDay_X6_put
theorem dX7_openDay_0 : decode cX7_openDay 0 = .ok (.iload_n 2, 1) := by decide +kernel
theorem dX7_openDay_1 : decode cX7_openDay 1 = .ok (.iconst 4, 1) := by decide +kernel
theorem dX7_openDay_2 : decode cX7_openDay 2 = .ok (.irem, 1) := by decide +kernel
theorem dX7_openDay_3 : decode cX7_openDay 3 = .ok (.ifCond .ne 8, 3) := by decide +kernel
theorem dX7_openDay_6 : decode cX7_openDay 6 = .ok (.aload_n 0, 1) := by decide +kernel
theorem dX7_openDay_7 : decode cX7_openDay 7 = .ok (.aload_n 1, 1) := by decide +kernel
theorem dX7_openDay_8 : decode cX7_openDay 8 = .ok (.invokevirtual 32, 3) := by decide +kernel
theorem dX7_openDay_11 : decode cX7_openDay 11 = .ok (.iconst 0, 1) := by decide +kernel
theorem dX7_openDay_12 : decode cX7_openDay 12 = .ok (.istore_n 3, 1) := by decide +kernel
theorem dX7_openDay_13 : decode cX7_openDay 13 = .ok (.iload_n 3, 1) := by decide +kernel
theorem dX7_openDay_14 : decode cX7_openDay 14 = .ok (.aload_n 1, 1) := by decide +kernel
theorem dX7_openDay_15 : decode cX7_openDay 15 = .ok (.invokevirtual 36, 3) := by decide +kernel
theorem dX7_openDay_18 : decode cX7_openDay 18 = .ok (.if_icmp .ge 22, 3) := by decide +kernel
theorem dX7_openDay_21 : decode cX7_openDay 21 = .ok (.aload_n 0, 1) := by decide +kernel
theorem dX7_openDay_22 : decode cX7_openDay 22 = .ok (.getfield 14, 3) := by decide +kernel
theorem dX7_openDay_25 : decode cX7_openDay 25 = .ok (.aload_n 1, 1) := by decide +kernel
theorem dX7_openDay_26 : decode cX7_openDay 26 = .ok (.iload_n 3, 1) := by decide +kernel
theorem dX7_openDay_27 : decode cX7_openDay 27 = .ok (.invokevirtual 42, 3) := by decide +kernel
theorem dX7_openDay_30 : decode cX7_openDay 30 = .ok (.iload_n 3, 1) := by decide +kernel
theorem dX7_openDay_31 : decode cX7_openDay 31 = .ok (.invokevirtual 46, 3) := by decide +kernel
theorem dX7_openDay_34 : decode cX7_openDay 34 = .ok (.iinc 3 1, 3) := by decide +kernel
theorem dX7_openDay_37 : decode cX7_openDay 37 = .ok (.goto (-24), 3) := by decide +kernel
theorem dX7_openDay_40 : decode cX7_openDay 40 = .ok (.return_, 1) := by decide +kernel
set_option maxRecDepth 20000 in
theorem ggX7_openYear_X5_size : GoodIn wsX7_openYear wsX5_size := goodIn_r _ [7, 8, 29, 30] (by decide +kernel) (by decide +kernel)
set_option maxRecDepth 20000 in
theorem gX7_openYear_X5_size : GoodIn wsX7_openYear (wsV RX7 36 RX5 yX5_size wsX5_size) := goodIn_app (goodIn_of _ (by decide +kernel)) ggX7_openYear_X5_size
set_option maxRecDepth 20000 in
theorem ggX7_openYear_X5_at : GoodIn wsX7_openYear wsX5_at := goodIn_r _ [12, 13, 14, 15, 16, 6, 17, 8, 29, 30] (by decide +kernel) (by decide +kernel)
set_option maxRecDepth 20000 in
theorem gX7_openYear_X5_at : GoodIn wsX7_openYear (wsV RX7 42 RX5 yX5_at wsX5_at) := goodIn_app (goodIn_of _ (by decide +kernel)) ggX7_openYear_X5_at
set_option maxRecDepth 20000 in
theorem ggX7_openYear_X6_put : GoodIn wsX7_openYear wsX6_put := goodIn_r _ [22, 23, 31, 32] (by decide +kernel) (by decide +kernel)
set_option maxRecDepth 20000 in
theorem gX7_openYear_X6_put : GoodIn wsX7_openYear (wsV RX7 46 RX6 yX6_put wsX6_put) := goodIn_app (goodIn_of _ (by decide +kernel)) ggX7_openYear_X6_put
theorem dX7_openYear_0 : decode cX7_openYear 0 = .ok (.iconst 0, 1) := by decide +kernel
theorem dX7_openYear_1 : decode cX7_openYear 1 = .ok (.istore_n 2, 1) := by decide +kernel
theorem dX7_openYear_2 : decode cX7_openYear 2 = .ok (.iload_n 2, 1) := by decide +kernel
theorem dX7_openYear_3 : decode cX7_openYear 3 = .ok (.aload_n 1, 1) := by decide +kernel
theorem dX7_openYear_4 : decode cX7_openYear 4 = .ok (.invokevirtual 36, 3) := by decide +kernel
theorem dX7_openYear_7 : decode cX7_openYear 7 = .ok (.if_icmp .ge 35, 3) := by decide +kernel
theorem dX7_openYear_10 : decode cX7_openYear 10 = .ok (.aload_n 0, 1) := by decide +kernel
theorem dX7_openYear_11 : decode cX7_openYear 11 = .ok (.getfield 20, 3) := by decide +kernel
theorem dX7_openYear_14 : decode cX7_openYear 14 = .ok (.aload_n 1, 1) := by decide +kernel
theorem dX7_openYear_15 : decode cX7_openYear 15 = .ok (.iload_n 2, 1) := by decide +kernel
theorem dX7_openYear_16 : decode cX7_openYear 16 = .ok (.invokevirtual 42, 3) := by decide +kernel
theorem dX7_openYear_19 : decode cX7_openYear 19 = .ok (.iconst 1, 1) := by decide +kernel
theorem dX7_openYear_20 : decode cX7_openYear 20 = .ok (.invokevirtual 46, 3) := by decide +kernel
theorem dX7_openYear_23 : decode cX7_openYear 23 = .ok (.aload_n 0, 1) := by decide +kernel
theorem dX7_openYear_24 : decode cX7_openYear 24 = .ok (.getfield 23, 3) := by decide +kernel
theorem dX7_openYear_27 : decode cX7_openYear 27 = .ok (.aload_n 1, 1) := by decide +kernel
theorem dX7_openYear_28 : decode cX7_openYear 28 = .ok (.iload_n 2, 1) := by decide +kernel
theorem dX7_openYear_29 : decode cX7_openYear 29 = .ok (.invokevirtual 42, 3) := by decide +kernel
theorem dX7_openYear_32 : decode cX7_openYear 32 = .ok (.iconst 1, 1) := by decide +kernel
theorem dX7_openYear_33 : decode cX7_openYear 33 = .ok (.invokevirtual 46, 3) := by decide +kernel
theorem dX7_openYear_36 : decode cX7_openYear 36 = .ok (.iinc 2 1, 3) := by decide +kernel
theorem dX7_openYear_39 : decode cX7_openYear 39 = .ok (.goto (-37), 3) := by decide +kernel
theorem dX7_openYear_42 : decode cX7_openYear 42 = .ok (.return_, 1) := by decide +kernel
set_option maxRecDepth 20000 in
theorem ggX7_forget_X6_put : GoodIn wsX7_forget wsX6_put := goodIn_r _ [7, 8, 14, 15] (by decide +kernel) (by decide +kernel)
set_option maxRecDepth 20000 in
theorem gX7_forget_X6_put : GoodIn wsX7_forget (wsV RX7 46 RX6 yX6_put wsX6_put) := goodIn_app (goodIn_of _ (by decide +kernel)) ggX7_forget_X6_put
theorem dX7_forget_0 : decode cX7_forget 0 = .ok (.aload_n 0, 1) := by decide +kernel
theorem dX7_forget_1 : decode cX7_forget 1 = .ok (.getfield 20, 3) := by decide +kernel
theorem dX7_forget_4 : decode cX7_forget 4 = .ok (.iload_n 1, 1) := by decide +kernel
theorem dX7_forget_5 : decode cX7_forget 5 = .ok (.iconst 0, 1) := by decide +kernel
theorem dX7_forget_6 : decode cX7_forget 6 = .ok (.invokevirtual 46, 3) := by decide +kernel
theorem dX7_forget_9 : decode cX7_forget 9 = .ok (.aload_n 0, 1) := by decide +kernel
theorem dX7_forget_10 : decode cX7_forget 10 = .ok (.getfield 23, 3) := by decide +kernel
theorem dX7_forget_13 : decode cX7_forget 13 = .ok (.iload_n 1, 1) := by decide +kernel
theorem dX7_forget_14 : decode cX7_forget 14 = .ok (.iconst 0, 1) := by decide +kernel
theorem dX7_forget_15 : decode cX7_forget 15 = .ok (.invokevirtual 46, 3) := by decide +kernel
theorem dX7_forget_18 : decode cX7_forget 18 = .ok (.return_, 1) := by decide +kernel
set_option maxRecDepth 20000 in
theorem ggX7_closeDay_X5_size : GoodIn wsX7_closeDay wsX5_size := goodIn_r _ [8, 9, 48, 49] (by decide +kernel) (by decide +kernel)
set_option maxRecDepth 20000 in
theorem gX7_closeDay_X5_size : GoodIn wsX7_closeDay (wsV RX7 36 RX5 yX5_size wsX5_size) := goodIn_app (goodIn_of _ (by decide +kernel)) ggX7_closeDay_X5_size
set_option maxRecDepth 20000 in
theorem ggX7_closeDay_X5_at : GoodIn wsX7_closeDay wsX5_at := goodIn_r _ [13, 14, 15, 16, 17, 7, 18, 9, 48, 49] (by decide +kernel) (by decide +kernel)
set_option maxRecDepth 20000 in
theorem gX7_closeDay_X5_at : GoodIn wsX7_closeDay (wsV RX7 42 RX5 yX5_at wsX5_at) := goodIn_app (goodIn_of _ (by decide +kernel)) ggX7_closeDay_X5_at
set_option maxRecDepth 20000 in
theorem ggX7_closeDay_X6_get : GoodIn wsX7_closeDay wsX6_get := goodIn_r _ [23, 24, 25, 50, 51] (by decide +kernel) (by decide +kernel)
set_option maxRecDepth 20000 in
theorem gX7_closeDay_X6_get : GoodIn wsX7_closeDay (wsV RX7 49 RX6 yX6_get wsX6_get) := goodIn_app (goodIn_of _ (by decide +kernel)) ggX7_closeDay_X6_get
set_option maxRecDepth 20000 in
theorem ggX7_closeDay_X6_put : GoodIn wsX7_closeDay wsX6_put := goodIn_r _ [29, 24, 50, 51] (by decide +kernel) (by decide +kernel)
set_option maxRecDepth 20000 in
theorem gX7_closeDay_X6_put : GoodIn wsX7_closeDay (wsV RX7 46 RX6 yX6_put wsX6_put) := goodIn_app (goodIn_of _ (by decide +kernel)) ggX7_closeDay_X6_put
set_option maxRecDepth 20000 in
theorem ggX7_closeDay_X7_closeYear : GoodIn wsX7_closeDay wsX7_closeYear := goodIn_r _ [34, 35, 2, 36, 3, 4, 5, 6, 7, 8, 9, 10, 11, 12, 13, 14, 15, 16, 17, 18, 19, 20, 21, 22, 23, 24, 25, 37, 38, 39, 40, 41, 42, 27, 28, 29, 43, 44, 45, 46, 47, 48, 49, 50, 51] (by decide +kernel) (by decide +kernel)
set_option maxRecDepth 20000 in
theorem gX7_closeDay_X7_closeYear : GoodIn wsX7_closeDay (wsV RX7 52 RX7 yX7_closeYear wsX7_closeYear) := goodIn_app (goodIn_of _ (by decide +kernel)) ggX7_closeDay_X7_closeYear
theorem dX7_closeDay_0 : decode cX7_closeDay 0 = .ok (.iconst 0, 1) := by decide +kernel
theorem dX7_closeDay_1 : decode cX7_closeDay 1 = .ok (.istore_n 3, 1) := by decide +kernel
theorem dX7_closeDay_2 : decode cX7_closeDay 2 = .ok (.iload_n 3, 1) := by decide +kernel
theorem dX7_closeDay_3 : decode cX7_closeDay 3 = .ok (.aload_n 1, 1) := by decide +kernel
theorem dX7_closeDay_4 : decode cX7_closeDay 4 = .ok (.invokevirtual 36, 3) := by decide +kernel
theorem dX7_closeDay_7 : decode cX7_closeDay 7 = .ok (.if_icmp .ge 62, 3) := by decide +kernel
theorem dX7_closeDay_10 : decode cX7_closeDay 10 = .ok (.aload_n 1, 1) := by decide +kernel
theorem dX7_closeDay_11 : decode cX7_closeDay 11 = .ok (.iload_n 3, 1) := by decide +kernel
theorem dX7_closeDay_12 : decode cX7_closeDay 12 = .ok (.invokevirtual 42, 3) := by decide +kernel
theorem dX7_closeDay_15 : decode cX7_closeDay 15 = .ok (.istore 4, 2) := by decide +kernel
theorem dX7_closeDay_17 : decode cX7_closeDay 17 = .ok (.iload_n 3, 1) := by decide +kernel
theorem dX7_closeDay_18 : decode cX7_closeDay 18 = .ok (.aload_n 0, 1) := by decide +kernel
theorem dX7_closeDay_19 : decode cX7_closeDay 19 = .ok (.getfield 14, 3) := by decide +kernel
theorem dX7_closeDay_22 : decode cX7_closeDay 22 = .ok (.iload 4, 2) := by decide +kernel
theorem dX7_closeDay_24 : decode cX7_closeDay 24 = .ok (.invokevirtual 49, 3) := by decide +kernel
theorem dX7_closeDay_27 : decode cX7_closeDay 27 = .ok (.if_icmp .lt 13, 3) := by decide +kernel
theorem dX7_closeDay_30 : decode cX7_closeDay 30 = .ok (.aload_n 0, 1) := by decide +kernel
theorem dX7_closeDay_31 : decode cX7_closeDay 31 = .ok (.getfield 20, 3) := by decide +kernel
theorem dX7_closeDay_34 : decode cX7_closeDay 34 = .ok (.iload 4, 2) := by decide +kernel
theorem dX7_closeDay_36 : decode cX7_closeDay 36 = .ok (.iconst 0, 1) := by decide +kernel
theorem dX7_closeDay_37 : decode cX7_closeDay 37 = .ok (.invokevirtual 46, 3) := by decide +kernel
theorem dX7_closeDay_40 : decode cX7_closeDay 40 = .ok (.iload_n 3, 1) := by decide +kernel
theorem dX7_closeDay_41 : decode cX7_closeDay 41 = .ok (.aload_n 0, 1) := by decide +kernel
theorem dX7_closeDay_42 : decode cX7_closeDay 42 = .ok (.getfield 14, 3) := by decide +kernel
theorem dX7_closeDay_45 : decode cX7_closeDay 45 = .ok (.iload 4, 2) := by decide +kernel
theorem dX7_closeDay_47 : decode cX7_closeDay 47 = .ok (.invokevirtual 49, 3) := by decide +kernel
theorem dX7_closeDay_50 : decode cX7_closeDay 50 = .ok (.if_icmp .gt 13, 3) := by decide +kernel
theorem dX7_closeDay_53 : decode cX7_closeDay 53 = .ok (.aload_n 0, 1) := by decide +kernel
theorem dX7_closeDay_54 : decode cX7_closeDay 54 = .ok (.getfield 23, 3) := by decide +kernel
theorem dX7_closeDay_57 : decode cX7_closeDay 57 = .ok (.iload 4, 2) := by decide +kernel
theorem dX7_closeDay_59 : decode cX7_closeDay 59 = .ok (.iconst 0, 1) := by decide +kernel
theorem dX7_closeDay_60 : decode cX7_closeDay 60 = .ok (.invokevirtual 46, 3) := by decide +kernel
theorem dX7_closeDay_63 : decode cX7_closeDay 63 = .ok (.iinc 3 1, 3) := by decide +kernel
theorem dX7_closeDay_66 : decode cX7_closeDay 66 = .ok (.goto (-64), 3) := by decide +kernel
theorem dX7_closeDay_69 : decode cX7_closeDay 69 = .ok (.iload_n 2, 1) := by decide +kernel
theorem dX7_closeDay_70 : decode cX7_closeDay 70 = .ok (.iconst 4, 1) := by decide +kernel
theorem dX7_closeDay_71 : decode cX7_closeDay 71 = .ok (.irem, 1) := by decide +kernel
theorem dX7_closeDay_72 : decode cX7_closeDay 72 = .ok (.iconst 3, 1) := by decide +kernel
theorem dX7_closeDay_73 : decode cX7_closeDay 73 = .ok (.if_icmp .ne 8, 3) := by decide +kernel
theorem dX7_closeDay_76 : decode cX7_closeDay 76 = .ok (.aload_n 0, 1) := by decide +kernel
theorem dX7_closeDay_77 : decode cX7_closeDay 77 = .ok (.aload_n 1, 1) := by decide +kernel
theorem dX7_closeDay_78 : decode cX7_closeDay 78 = .ok (.invokevirtual 52, 3) := by decide +kernel
theorem dX7_closeDay_81 : decode cX7_closeDay 81 = .ok (.return_, 1) := by decide +kernel
set_option maxRecDepth 20000 in
theorem ggX7_closeYear_X5_size : GoodIn wsX7_closeYear wsX5_size := goodIn_r _ [9, 10, 41, 42] (by decide +kernel) (by decide +kernel)
set_option maxRecDepth 20000 in
theorem gX7_closeYear_X5_size : GoodIn wsX7_closeYear (wsV RX7 36 RX5 yX5_size wsX5_size) := goodIn_app (goodIn_of _ (by decide +kernel)) ggX7_closeYear_X5_size
set_option maxRecDepth 20000 in
theorem ggX7_closeYear_X5_at : GoodIn wsX7_closeYear wsX5_at := goodIn_r _ [14, 15, 16, 17, 18, 8, 19, 10, 41, 42] (by decide +kernel) (by decide +kernel)
set_option maxRecDepth 20000 in
theorem gX7_closeYear_X5_at : GoodIn wsX7_closeYear (wsV RX7 42 RX5 yX5_at wsX5_at) := goodIn_app (goodIn_of _ (by decide +kernel)) ggX7_closeYear_X5_at
set_option maxRecDepth 20000 in
theorem ggX7_closeYear_X6_get : GoodIn wsX7_closeYear wsX6_get := goodIn_r _ [24, 25, 26, 43, 44] (by decide +kernel) (by decide +kernel)
set_option maxRecDepth 20000 in
theorem gX7_closeYear_X6_get : GoodIn wsX7_closeYear (wsV RX7 49 RX6 yX6_get wsX6_get) := goodIn_app (goodIn_of _ (by decide +kernel)) ggX7_closeYear_X6_get
set_option maxRecDepth 20000 in
theorem ggX7_closeYear_X6_add : GoodIn wsX7_closeYear wsX6_add := goodIn_r _ [30, 31, 21, 22, 23, 24, 25, 26, 32, 33, 34, 35, 43, 44] (by decide +kernel) (by decide +kernel)
set_option maxRecDepth 20000 in
theorem gX7_closeYear_X6_add : GoodIn wsX7_closeYear (wsV RX7 55 RX6 yX6_add wsX6_add) := goodIn_app (goodIn_of _ (by decide +kernel)) ggX7_closeYear_X6_add
theorem dX7_closeYear_0 : decode cX7_closeYear 0 = .ok (.iconst 0, 1) := by decide +kernel
theorem dX7_closeYear_1 : decode cX7_closeYear 1 = .ok (.istore_n 2, 1) := by decide +kernel
theorem dX7_closeYear_2 : decode cX7_closeYear 2 = .ok (.iload_n 2, 1) := by decide +kernel
theorem dX7_closeYear_3 : decode cX7_closeYear 3 = .ok (.aload_n 1, 1) := by decide +kernel
theorem dX7_closeYear_4 : decode cX7_closeYear 4 = .ok (.invokevirtual 36, 3) := by decide +kernel
theorem dX7_closeYear_7 : decode cX7_closeYear 7 = .ok (.if_icmp .ge 47, 3) := by decide +kernel
theorem dX7_closeYear_10 : decode cX7_closeYear 10 = .ok (.aload_n 1, 1) := by decide +kernel
theorem dX7_closeYear_11 : decode cX7_closeYear 11 = .ok (.iload_n 2, 1) := by decide +kernel
theorem dX7_closeYear_12 : decode cX7_closeYear 12 = .ok (.invokevirtual 42, 3) := by decide +kernel
theorem dX7_closeYear_15 : decode cX7_closeYear 15 = .ok (.istore_n 3, 1) := by decide +kernel
theorem dX7_closeYear_16 : decode cX7_closeYear 16 = .ok (.aload_n 0, 1) := by decide +kernel
theorem dX7_closeYear_17 : decode cX7_closeYear 17 = .ok (.getfield 26, 3) := by decide +kernel
theorem dX7_closeYear_20 : decode cX7_closeYear 20 = .ok (.iload_n 3, 1) := by decide +kernel
theorem dX7_closeYear_21 : decode cX7_closeYear 21 = .ok (.aload_n 0, 1) := by decide +kernel
theorem dX7_closeYear_22 : decode cX7_closeYear 22 = .ok (.getfield 20, 3) := by decide +kernel
theorem dX7_closeYear_25 : decode cX7_closeYear 25 = .ok (.iload_n 3, 1) := by decide +kernel
theorem dX7_closeYear_26 : decode cX7_closeYear 26 = .ok (.invokevirtual 49, 3) := by decide +kernel
theorem dX7_closeYear_29 : decode cX7_closeYear 29 = .ok (.invokevirtual 55, 3) := by decide +kernel
theorem dX7_closeYear_32 : decode cX7_closeYear 32 = .ok (.aload_n 0, 1) := by decide +kernel
theorem dX7_closeYear_33 : decode cX7_closeYear 33 = .ok (.getfield 29, 3) := by decide +kernel
theorem dX7_closeYear_36 : decode cX7_closeYear 36 = .ok (.iload_n 3, 1) := by decide +kernel
theorem dX7_closeYear_37 : decode cX7_closeYear 37 = .ok (.aload_n 0, 1) := by decide +kernel
theorem dX7_closeYear_38 : decode cX7_closeYear 38 = .ok (.getfield 23, 3) := by decide +kernel
theorem dX7_closeYear_41 : decode cX7_closeYear 41 = .ok (.iload_n 3, 1) := by decide +kernel
theorem dX7_closeYear_42 : decode cX7_closeYear 42 = .ok (.invokevirtual 49, 3) := by decide +kernel
theorem dX7_closeYear_45 : decode cX7_closeYear 45 = .ok (.invokevirtual 55, 3) := by decide +kernel
theorem dX7_closeYear_48 : decode cX7_closeYear 48 = .ok (.iinc 2 1, 3) := by decide +kernel
theorem dX7_closeYear_51 : decode cX7_closeYear 51 = .ok (.goto (-49), 3) := by decide +kernel
theorem dX7_closeYear_54 : decode cX7_closeYear 54 = .ok (.return_, 1) := by decide +kernel
set_option maxRecDepth 20000 in
theorem ggX7_bladesOf_X6_get : GoodIn wsX7_bladesOf wsX6_get := goodIn_r _ [6, 7, 8, 14, 15] (by decide +kernel) (by decide +kernel)
set_option maxRecDepth 20000 in
theorem gX7_bladesOf_X6_get : GoodIn wsX7_bladesOf (wsV RX7 49 RX6 yX6_get wsX6_get) := goodIn_app (goodIn_of _ (by decide +kernel)) ggX7_bladesOf_X6_get
theorem dX7_bladesOf_0 : decode cX7_bladesOf 0 = .ok (.aload_n 0, 1) := by decide +kernel
theorem dX7_bladesOf_1 : decode cX7_bladesOf 1 = .ok (.getfield 26, 3) := by decide +kernel
theorem dX7_bladesOf_4 : decode cX7_bladesOf 4 = .ok (.iload_n 1, 1) := by decide +kernel
theorem dX7_bladesOf_5 : decode cX7_bladesOf 5 = .ok (.invokevirtual 49, 3) := by decide +kernel
theorem dX7_bladesOf_8 : decode cX7_bladesOf 8 = .ok (.ireturn, 1) := by decide +kernel
set_option maxRecDepth 20000 in
theorem ggX7_spoonsOf_X6_get : GoodIn wsX7_spoonsOf wsX6_get := goodIn_r _ [6, 7, 8, 14, 15] (by decide +kernel) (by decide +kernel)
set_option maxRecDepth 20000 in
theorem gX7_spoonsOf_X6_get : GoodIn wsX7_spoonsOf (wsV RX7 49 RX6 yX6_get wsX6_get) := goodIn_app (goodIn_of _ (by decide +kernel)) ggX7_spoonsOf_X6_get
theorem dX7_spoonsOf_0 : decode cX7_spoonsOf 0 = .ok (.aload_n 0, 1) := by decide +kernel
theorem dX7_spoonsOf_1 : decode cX7_spoonsOf 1 = .ok (.getfield 29, 3) := by decide +kernel
theorem dX7_spoonsOf_4 : decode cX7_spoonsOf 4 = .ok (.iload_n 1, 1) := by decide +kernel
theorem dX7_spoonsOf_5 : decode cX7_spoonsOf 5 = .ok (.invokevirtual 49, 3) := by decide +kernel
theorem dX7_spoonsOf_8 : decode cX7_spoonsOf 8 = .ok (.ireturn, 1) := by decide +kernel
set_option maxRecDepth 20000 in
theorem ggX8_init_X4_init : GoodIn wsX8_init wsX4_init := goodIn_r _ [19, 20, 2, 3, 21, 22, 23, 24, 25, 26, 27, 28, 29, 30, 31, 32, 33, 34, 35, 36, 37, 38, 39, 40, 41, 42, 43, 44, 45, 46, 47, 48, 49, 50, 51, 52, 53, 54, 55, 56, 57, 58, 59, 60, 61, 62, 63, 64, 65, 66, 67, 68, 69, 70, 71, 72, 73, 74, 75, 76, 77, 78, 79, 80, 81, 82, 83, 84, 85, 86, 87, 88, 89, 90, 91, 92, 93, 94, 95, 96, 153, 154, 126, 127, 128, 129, 130, 131, 132, 133, 134, 135, 136, 155, 156, 157, 158, 159, 160, 161, 162, 163, 164, 165, 166, 167, 168] (by decide +kernel) (by decide +kernel)
set_option maxRecDepth 20000 in
theorem gX8_init_X4_init : GoodIn wsX8_init (wsX4_init) := ggX8_init_X4_init
set_option maxRecDepth 20000 in
theorem ggX8_init_X2_init : GoodIn wsX8_init wsX2_init := goodIn_r _ [99, 100, 2, 3, 101, 22, 23, 102, 103, 38, 39, 104, 105, 106, 107, 108, 109, 110, 111, 112, 48, 49, 50, 51, 52, 53, 54, 55, 56, 57, 113, 79, 80, 81, 82, 83, 84, 153, 154, 141, 142, 143, 144, 145, 146, 147, 148, 167, 168] (by decide +kernel) (by decide +kernel)
set_option maxRecDepth 20000 in
theorem gX8_init_X2_init : GoodIn wsX8_init (wsX2_init) := ggX8_init_X2_init
set_option maxRecDepth 20000 in
theorem ggX8_init_X0_init : GoodIn wsX8_init wsX0_init := goodIn_r _ [116, 117, 2, 3, 118, 22, 23, 119, 120, 38, 39, 121, 122, 123, 124, 48, 49, 50, 51, 52, 53, 54, 55, 56, 57, 125, 79, 80, 81, 82, 83, 84, 153, 154, 149, 150, 151, 152, 167, 168] (by decide +kernel) (by decide +kernel)
set_option maxRecDepth 20000 in
theorem gX8_init_X0_init : GoodIn wsX8_init (wsX0_init) := ggX8_init_X0_init
theorem dX8_init_0 : decode cX8_init 0 = .ok (.aload_n 0, 1) := by decide +kernel
theorem dX8_init_1 : decode cX8_init 1 = .ok (.invokespecial 1, 3) := by decide +kernel
theorem dX8_init_4 : decode cX8_init 4 = .ok (.aload_n 0, 1) := by decide +kernel
theorem dX8_init_5 : decode cX8_init 5 = .ok (.new 7, 3) := by decide +kernel
theorem dX8_init_8 : decode cX8_init 8 = .ok (.dup, 1) := by decide +kernel
theorem dX8_init_9 : decode cX8_init 9 = .ok (.invokespecial 9, 3) := by decide +kernel
theorem dX8_init_12 : decode cX8_init 12 = .ok (.putfield 10, 3) := by decide +kernel
theorem dX8_init_15 : decode cX8_init 15 = .ok (.aload_n 0, 1) := by decide +kernel
theorem dX8_init_16 : decode cX8_init 16 = .ok (.new 16, 3) := by decide +kernel
theorem dX8_init_19 : decode cX8_init 19 = .ok (.dup, 1) := by decide +kernel
theorem dX8_init_20 : decode cX8_init 20 = .ok (.invokespecial 18, 3) := by decide +kernel
theorem dX8_init_23 : decode cX8_init 23 = .ok (.putfield 19, 3) := by decide +kernel
theorem dX8_init_26 : decode cX8_init 26 = .ok (.aload_n 0, 1) := by decide +kernel
theorem dX8_init_27 : decode cX8_init 27 = .ok (.new 23, 3) := by decide +kernel
theorem dX8_init_30 : decode cX8_init 30 = .ok (.dup, 1) := by decide +kernel
theorem dX8_init_31 : decode cX8_init 31 = .ok (.invokespecial 25, 3) := by decide +kernel
theorem dX8_init_34 : decode cX8_init 34 = .ok (.putfield 26, 3) := by decide +kernel
theorem dX8_init_37 : decode cX8_init 37 = .ok (.aload_n 0, 1) := by decide +kernel
theorem dX8_init_38 : decode cX8_init 38 = .ok (.iconst 0, 1) := by decide +kernel
theorem dX8_init_39 : decode cX8_init 39 = .ok (.putfield 30, 3) := by decide +kernel
theorem dX8_init_42 : decode cX8_init 42 = .ok (.return_, 1) := by decide +kernel
set_option maxRecDepth 20000 in
theorem ggX8_crew_X8_needRange : GoodIn wsX8_crew wsX8_needRange := goodIn_ca (goodIn_r _ [15, 1, 2] (by decide +kernel) (by decide +kernel)) (goodIn_sub (fun _ h => List.mem_cons_of_mem _ (List.mem_append_left _ (List.mem_append_right _ h))) (by decide +kernel))
set_option maxRecDepth 20000 in
theorem gX8_crew_X8_needRange : GoodIn wsX8_crew (va_wsS RX8 45 yX8_needRange wsX8_needRange) := goodIn_app (goodIn_of _ (by decide +kernel)) ggX8_crew_X8_needRange
set_option maxRecDepth 20000 in
theorem ggX8_crew_X0_tellHandicap : GoodIn wsX8_crew wsX0_tellHandicap := goodIn_r _ [20, 21, 22, 23, 24, 25, 26, 27, 32, 33, 34, 35, 36, 37] (by decide +kernel) (by decide +kernel)
set_option maxRecDepth 20000 in
theorem gX8_crew_X0_tellHandicap : GoodIn wsX8_crew (wsV RX8 60 RX0 yX0_tellHandicap wsX0_tellHandicap) := goodIn_app (goodIn_of _ (by decide +kernel)) ggX8_crew_X0_tellHandicap
theorem dX8_crew_0 : decode cX8_crew 0 = .ok (.iload_n 1, 1) := by decide +kernel
theorem dX8_crew_1 : decode cX8_crew 1 = .ok (.ifCond .lt 11, 3) := by decide +kernel
theorem dX8_crew_4 : decode cX8_crew 4 = .ok (.iload_n 1, 1) := by decide +kernel
theorem dX8_crew_5 : decode cX8_crew 5 = .ok (.getstatic 34, 3) := by decide +kernel
theorem dX8_crew_8 : decode cX8_crew 8 = .ok (.arraylength, 1) := by decide +kernel
theorem dX8_crew_9 : decode cX8_crew 9 = .ok (.if_icmp .lt 13, 3) := by decide +kernel
theorem dX8_crew_12 : decode cX8_crew 12 = .ok (.new 38, 3) := by decide +kernel
theorem dX8_crew_15 : decode cX8_crew 15 = .ok (.dup, 1) := by decide +kernel
theorem dX8_crew_16 : decode cX8_crew 16 = .ok (.ldc 40, 2) := by decide +kernel
theorem dX8_crew_18 : decode cX8_crew 18 = .ok (.invokespecial 42, 3) := by decide +kernel
theorem dX8_crew_21 : decode cX8_crew 21 = .ok (.athrow, 1) := by decide +kernel
theorem dX8_crew_22 : decode cX8_crew 22 = .ok (.iload_n 2, 1) := by decide +kernel
theorem dX8_crew_23 : decode cX8_crew 23 = .ok (.bipush 15, 2) := by decide +kernel
theorem dX8_crew_25 : decode cX8_crew 25 = .ok (.bipush 80, 2) := by decide +kernel
theorem dX8_crew_27 : decode cX8_crew 27 = .ok (.invokestatic 45, 3) := by decide +kernel
theorem dX8_crew_30 : decode cX8_crew 30 = .ok (.aload_n 0, 1) := by decide +kernel
theorem dX8_crew_31 : decode cX8_crew 31 = .ok (.getfield 30, 3) := by decide +kernel
theorem dX8_crew_34 : decode cX8_crew 34 = .ok (.bipush 24, 2) := by decide +kernel
theorem dX8_crew_36 : decode cX8_crew 36 = .ok (.if_icmp .lt 13, 3) := by decide +kernel
theorem dX8_crew_39 : decode cX8_crew 39 = .ok (.new 49, 3) := by decide +kernel
theorem dX8_crew_42 : decode cX8_crew 42 = .ok (.dup, 1) := by decide +kernel
theorem dX8_crew_43 : decode cX8_crew 43 = .ok (.ldc 51, 2) := by decide +kernel
theorem dX8_crew_45 : decode cX8_crew 45 = .ok (.invokespecial 53, 3) := by decide +kernel
theorem dX8_crew_48 : decode cX8_crew 48 = .ok (.athrow, 1) := by decide +kernel
theorem dX8_crew_49 : decode cX8_crew 49 = .ok (.aload_n 0, 1) := by decide +kernel
theorem dX8_crew_50 : decode cX8_crew 50 = .ok (.getfield 30, 3) := by decide +kernel
theorem dX8_crew_53 : decode cX8_crew 53 = .ok (.istore_n 3, 1) := by decide +kernel
theorem dX8_crew_54 : decode cX8_crew 54 = .ok (.aload_n 0, 1) := by decide +kernel
theorem dX8_crew_55 : decode cX8_crew 55 = .ok (.getfield 26, 3) := by decide +kernel
theorem dX8_crew_58 : decode cX8_crew 58 = .ok (.iload_n 3, 1) := by decide +kernel
theorem dX8_crew_59 : decode cX8_crew 59 = .ok (.getstatic 34, 3) := by decide +kernel
theorem dX8_crew_62 : decode cX8_crew 62 = .ok (.iload_n 1, 1) := by decide +kernel
theorem dX8_crew_63 : decode cX8_crew 63 = .ok (.iaload, 1) := by decide +kernel
theorem dX8_crew_64 : decode cX8_crew 64 = .ok (.sipush 200, 3) := by decide +kernel
theorem dX8_crew_67 : decode cX8_crew 67 = .ok (.iconst 0, 1) := by decide +kernel
theorem dX8_crew_68 : decode cX8_crew 68 = .ok (.iload_n 2, 1) := by decide +kernel
theorem dX8_crew_69 : decode cX8_crew 69 = .ok (.bipush 27, 2) := by decide +kernel
theorem dX8_crew_71 : decode cX8_crew 71 = .ok (.isub, 1) := by decide +kernel
theorem dX8_crew_72 : decode cX8_crew 72 = .ok (.invokestatic 54, 3) := by decide +kernel
theorem dX8_crew_75 : decode cX8_crew 75 = .ok (.imul, 1) := by decide +kernel
theorem dX8_crew_76 : decode cX8_crew 76 = .ok (.iadd, 1) := by decide +kernel
theorem dX8_crew_77 : decode cX8_crew 77 = .ok (.invokevirtual 60, 3) := by decide +kernel
theorem dX8_crew_80 : decode cX8_crew 80 = .ok (.aload_n 0, 1) := by decide +kernel
theorem dX8_crew_81 : decode cX8_crew 81 = .ok (.dup, 1) := by decide +kernel
theorem dX8_crew_82 : decode cX8_crew 82 = .ok (.getfield 30, 3) := by decide +kernel
theorem dX8_crew_85 : decode cX8_crew 85 = .ok (.iconst 1, 1) := by decide +kernel
theorem dX8_crew_86 : decode cX8_crew 86 = .ok (.iadd, 1) := by decide +kernel
theorem dX8_crew_87 : decode cX8_crew 87 = .ok (.putfield 30, 3) := by decide +kernel
theorem dX8_crew_90 : decode cX8_crew 90 = .ok (.iload_n 3, 1) := by decide +kernel
theorem dX8_crew_91 : decode cX8_crew 91 = .ok (.ireturn, 1) := by decide +kernel
set_option maxRecDepth 20000 in
theorem ggX8_enter_X8_needCrew : GoodIn wsX8_enter wsX8_needCrew := goodIn_ca (goodIn_r _ [8, 9, 10, 11, 94, 95, 96, 97] (by decide +kernel) (by decide +kernel)) (goodIn_sub (fun _ h => List.mem_cons_of_mem _ (List.mem_append_right _ h)) (by decide +kernel))
set_option maxRecDepth 20000 in
theorem gX8_enter_X8_needCrew : GoodIn wsX8_enter (wsV RX8 64 RX8 yX8_needCrew wsX8_needCrew) := goodIn_app (goodIn_of _ (by decide +kernel)) ggX8_enter_X8_needCrew
set_option maxRecDepth 20000 in
theorem ggX8_enter_X4_placeOf : GoodIn wsX8_enter wsX4_placeOf := goodIn_r _ [16, 17, 18, 19, 20, 21, 22, 23, 24, 98, 99, 100, 101, 102, 103, 104, 105, 106, 107, 108, 109, 110] (by decide +kernel) (by decide +kernel)
set_option maxRecDepth 20000 in
theorem gX8_enter_X4_placeOf : GoodIn wsX8_enter (wsV RX8 68 RX4 yX4_placeOf wsX4_placeOf) := goodIn_app (goodIn_of _ (by decide +kernel)) ggX8_enter_X4_placeOf
set_option maxRecDepth 20000 in
theorem ggX8_enter_X8_needNoDay : GoodIn wsX8_enter wsX8_needNoDay := goodIn_ca (goodIn_r _ [28, 1, 2, 3, 29, 30, 31, 15, 32, 33, 94, 95, 96, 97, 98, 99, 100, 101, 102, 103, 104, 105, 106, 107, 108] (by decide +kernel) (by decide +kernel)) (goodIn_sub (fun _ h => List.mem_cons_of_mem _ (List.mem_append_left _ (List.mem_append_right _ h))) (by decide +kernel))
set_option maxRecDepth 20000 in
theorem gX8_enter_X8_needNoDay : GoodIn wsX8_enter (wsV RX8 74 RX8 yX8_needNoDay wsX8_needNoDay) := goodIn_app (goodIn_of _ (by decide +kernel)) ggX8_enter_X8_needNoDay
set_option maxRecDepth 20000 in
theorem ggX8_enter_X4_change : GoodIn wsX8_enter wsX4_change := goodIn_r _ [37, 17, 38, 39, 40, 41, 42, 43, 44, 45, 46, 47, 48, 19, 20, 21, 22, 23, 24, 49, 50, 51, 52, 53, 54, 55, 56, 57, 58, 59, 60, 61, 62, 63, 64, 65, 66, 67, 68, 69, 70, 71, 72, 73, 74, 75, 76, 77, 78, 79, 80, 81, 82, 83, 84, 85, 86, 87, 88, 89, 90, 91, 92, 93, 98, 99, 100, 101, 102, 103, 104, 105, 106, 107, 108, 109, 110, 111, 112, 113, 114, 115, 116, 117, 118, 119, 120, 121] (by decide +kernel) (by decide +kernel)
set_option maxRecDepth 20000 in
theorem gX8_enter_X4_change : GoodIn wsX8_enter (wsV RX8 77 RX4 yX4_change wsX4_change) := goodIn_app (goodIn_of _ (by decide +kernel)) ggX8_enter_X4_change
theorem dX8_enter_0 : decode cX8_enter 0 = .ok (.aload_n 0, 1) := by decide +kernel
theorem dX8_enter_1 : decode cX8_enter 1 = .ok (.iload_n 1, 1) := by decide +kernel
theorem dX8_enter_2 : decode cX8_enter 2 = .ok (.invokevirtual 64, 3) := by decide +kernel
theorem dX8_enter_5 : decode cX8_enter 5 = .ok (.aload_n 0, 1) := by decide +kernel
theorem dX8_enter_6 : decode cX8_enter 6 = .ok (.getfield 10, 3) := by decide +kernel
theorem dX8_enter_9 : decode cX8_enter 9 = .ok (.iload_n 1, 1) := by decide +kernel
theorem dX8_enter_10 : decode cX8_enter 10 = .ok (.invokevirtual 68, 3) := by decide +kernel
theorem dX8_enter_13 : decode cX8_enter 13 = .ok (.iconst (-1), 1) := by decide +kernel
theorem dX8_enter_14 : decode cX8_enter 14 = .ok (.if_icmp .eq 13, 3) := by decide +kernel
theorem dX8_enter_17 : decode cX8_enter 17 = .ok (.new 49, 3) := by decide +kernel
theorem dX8_enter_20 : decode cX8_enter 20 = .ok (.dup, 1) := by decide +kernel
theorem dX8_enter_21 : decode cX8_enter 21 = .ok (.ldc 72, 2) := by decide +kernel
theorem dX8_enter_23 : decode cX8_enter 23 = .ok (.invokespecial 53, 3) := by decide +kernel
theorem dX8_enter_26 : decode cX8_enter 26 = .ok (.athrow, 1) := by decide +kernel
theorem dX8_enter_27 : decode cX8_enter 27 = .ok (.aload_n 0, 1) := by decide +kernel
theorem dX8_enter_28 : decode cX8_enter 28 = .ok (.invokevirtual 74, 3) := by decide +kernel
theorem dX8_enter_31 : decode cX8_enter 31 = .ok (.aload_n 0, 1) := by decide +kernel
theorem dX8_enter_32 : decode cX8_enter 32 = .ok (.getfield 10, 3) := by decide +kernel
theorem dX8_enter_35 : decode cX8_enter 35 = .ok (.iconst 0, 1) := by decide +kernel
theorem dX8_enter_36 : decode cX8_enter 36 = .ok (.iload_n 1, 1) := by decide +kernel
theorem dX8_enter_37 : decode cX8_enter 37 = .ok (.iconst (-1), 1) := by decide +kernel
theorem dX8_enter_38 : decode cX8_enter 38 = .ok (.invokevirtual 77, 3) := by decide +kernel
theorem dX8_enter_41 : decode cX8_enter 41 = .ok (.aload_n 0, 1) := by decide +kernel
theorem dX8_enter_42 : decode cX8_enter 42 = .ok (.getfield 10, 3) := by decide +kernel
theorem dX8_enter_45 : decode cX8_enter 45 = .ok (.iload_n 1, 1) := by decide +kernel
theorem dX8_enter_46 : decode cX8_enter 46 = .ok (.invokevirtual 68, 3) := by decide +kernel
theorem dX8_enter_49 : decode cX8_enter 49 = .ok (.ireturn, 1) := by decide +kernel
set_option maxRecDepth 20000 in
theorem ggX8_lapse_X8_needCrew : GoodIn wsX8_lapse wsX8_needCrew := goodIn_ca (goodIn_r _ [6, 7, 8, 9, 98, 99, 100, 101] (by decide +kernel) (by decide +kernel)) (goodIn_sub (fun _ h => List.mem_cons_of_mem _ (List.mem_append_left _ (List.mem_append_right _ h))) (by decide +kernel))
set_option maxRecDepth 20000 in
theorem gX8_lapse_X8_needCrew : GoodIn wsX8_lapse (wsV RX8 64 RX8 yX8_needCrew wsX8_needCrew) := goodIn_app (goodIn_of _ (by decide +kernel)) ggX8_lapse_X8_needCrew
set_option maxRecDepth 20000 in
theorem ggX8_lapse_X8_needInChart : GoodIn wsX8_lapse wsX8_needInChart := goodIn_ca (goodIn_r _ [13, 14, 15, 1, 16, 17, 18, 19, 20, 21, 22, 23, 24, 25, 26, 27, 28, 98, 99, 100, 101, 102, 103, 104, 105, 106, 107, 108, 109, 110, 111, 112, 113, 114] (by decide +kernel) (by decide +kernel)) (goodIn_sub (fun _ h => List.mem_cons_of_mem _ (List.mem_append_right _ h)) (by decide +kernel))
set_option maxRecDepth 20000 in
theorem gX8_lapse_X8_needInChart : GoodIn wsX8_lapse (wsV RX8 80 RX8 yX8_needInChart wsX8_needInChart) := goodIn_app (goodIn_of _ (by decide +kernel)) ggX8_lapse_X8_needInChart
set_option maxRecDepth 20000 in
theorem ggX8_lapse_X8_needNoDay : GoodIn wsX8_lapse wsX8_needNoDay := goodIn_ca (goodIn_r _ [32, 14, 15, 1, 33, 34, 35, 19, 36, 37, 98, 99, 100, 101, 102, 103, 104, 105, 106, 107, 108, 109, 110, 111, 112] (by decide +kernel) (by decide +kernel)) (goodIn_sub (fun _ h => List.mem_cons_of_mem _ (List.mem_append_right _ h)) (by decide +kernel))
set_option maxRecDepth 20000 in
theorem gX8_lapse_X8_needNoDay : GoodIn wsX8_lapse (wsV RX8 74 RX8 yX8_needNoDay wsX8_needNoDay) := goodIn_app (goodIn_of _ (by decide +kernel)) ggX8_lapse_X8_needNoDay
set_option maxRecDepth 20000 in
theorem ggX8_lapse_X4_placeOf : GoodIn wsX8_lapse wsX4_placeOf := goodIn_r _ [20, 21, 22, 23, 24, 25, 26, 27, 28, 102, 103, 104, 105, 106, 107, 108, 109, 110, 111, 112, 113, 114] (by decide +kernel) (by decide +kernel)
set_option maxRecDepth 20000 in
theorem gX8_lapse_X4_placeOf : GoodIn wsX8_lapse (wsV RX8 68 RX4 yX4_placeOf wsX4_placeOf) := goodIn_app (goodIn_of _ (by decide +kernel)) ggX8_lapse_X4_placeOf
set_option maxRecDepth 20000 in
theorem ggX8_lapse_X4_change : GoodIn wsX8_lapse wsX4_change := goodIn_r _ [41, 21, 42, 43, 44, 45, 46, 47, 48, 49, 50, 51, 52, 23, 24, 25, 26, 27, 28, 53, 54, 55, 56, 57, 58, 59, 60, 61, 62, 63, 64, 65, 66, 67, 68, 69, 70, 71, 72, 73, 74, 75, 76, 77, 78, 79, 80, 81, 82, 83, 84, 85, 86, 87, 88, 89, 90, 91, 92, 93, 94, 95, 96, 97, 102, 103, 104, 105, 106, 107, 108, 109, 110, 111, 112, 113, 114, 115, 116, 117, 118, 119, 120, 121, 122, 123, 124, 125] (by decide +kernel) (by decide +kernel)
set_option maxRecDepth 20000 in
theorem gX8_lapse_X4_change : GoodIn wsX8_lapse (wsV RX8 77 RX4 yX4_change wsX4_change) := goodIn_app (goodIn_of _ (by decide +kernel)) ggX8_lapse_X4_change
theorem dX8_lapse_0 : decode cX8_lapse 0 = .ok (.aload_n 0, 1) := by decide +kernel
theorem dX8_lapse_1 : decode cX8_lapse 1 = .ok (.iload_n 1, 1) := by decide +kernel
theorem dX8_lapse_2 : decode cX8_lapse 2 = .ok (.invokevirtual 64, 3) := by decide +kernel
theorem dX8_lapse_5 : decode cX8_lapse 5 = .ok (.aload_n 0, 1) := by decide +kernel
theorem dX8_lapse_6 : decode cX8_lapse 6 = .ok (.iload_n 1, 1) := by decide +kernel
theorem dX8_lapse_7 : decode cX8_lapse 7 = .ok (.invokevirtual 80, 3) := by decide +kernel
theorem dX8_lapse_10 : decode cX8_lapse 10 = .ok (.aload_n 0, 1) := by decide +kernel
theorem dX8_lapse_11 : decode cX8_lapse 11 = .ok (.invokevirtual 74, 3) := by decide +kernel
theorem dX8_lapse_14 : decode cX8_lapse 14 = .ok (.aload_n 0, 1) := by decide +kernel
theorem dX8_lapse_15 : decode cX8_lapse 15 = .ok (.getfield 10, 3) := by decide +kernel
theorem dX8_lapse_18 : decode cX8_lapse 18 = .ok (.iload_n 1, 1) := by decide +kernel
theorem dX8_lapse_19 : decode cX8_lapse 19 = .ok (.invokevirtual 68, 3) := by decide +kernel
theorem dX8_lapse_22 : decode cX8_lapse 22 = .ok (.istore_n 2, 1) := by decide +kernel
theorem dX8_lapse_23 : decode cX8_lapse 23 = .ok (.aload_n 0, 1) := by decide +kernel
theorem dX8_lapse_24 : decode cX8_lapse 24 = .ok (.getfield 10, 3) := by decide +kernel
theorem dX8_lapse_27 : decode cX8_lapse 27 = .ok (.iconst 1, 1) := by decide +kernel
theorem dX8_lapse_28 : decode cX8_lapse 28 = .ok (.iload_n 1, 1) := by decide +kernel
theorem dX8_lapse_29 : decode cX8_lapse 29 = .ok (.iconst (-1), 1) := by decide +kernel
theorem dX8_lapse_30 : decode cX8_lapse 30 = .ok (.invokevirtual 77, 3) := by decide +kernel
theorem dX8_lapse_33 : decode cX8_lapse 33 = .ok (.iload_n 2, 1) := by decide +kernel
theorem dX8_lapse_34 : decode cX8_lapse 34 = .ok (.ireturn, 1) := by decide +kernel
set_option maxRecDepth 20000 in
theorem ggX8_division_X8_needRange : GoodIn wsX8_division wsX8_needRange := goodIn_ca (goodIn_r _ [5, 6, 7] (by decide +kernel) (by decide +kernel)) (goodIn_sub (fun _ h => List.mem_cons_of_mem _ (List.mem_append_left _ (List.mem_append_right _ h))) (by decide +kernel))
set_option maxRecDepth 20000 in
theorem gX8_division_X8_needRange : GoodIn wsX8_division (va_wsS RX8 45 yX8_needRange wsX8_needRange) := goodIn_app (goodIn_of _ (by decide +kernel)) ggX8_division_X8_needRange
set_option maxRecDepth 20000 in
theorem ggX8_division_X8_needNoDay : GoodIn wsX8_division wsX8_needNoDay := goodIn_ca (goodIn_r _ [11, 12, 13, 1, 14, 15, 16, 17, 18, 19, 25, 26, 27, 28, 29, 30, 31, 32, 33, 34, 35, 36, 37, 38, 39] (by decide +kernel) (by decide +kernel)) (goodIn_sub (fun _ h => List.mem_cons_of_mem _ (List.mem_append_right _ h)) (by decide +kernel))
set_option maxRecDepth 20000 in
theorem gX8_division_X8_needNoDay : GoodIn wsX8_division (wsV RX8 74 RX8 yX8_needNoDay wsX8_needNoDay) := goodIn_app (goodIn_of _ (by decide +kernel)) ggX8_division_X8_needNoDay
set_option maxRecDepth 20000 in
theorem ggX8_division_X4_tellDivision : GoodIn wsX8_division wsX4_tellDivision := goodIn_r _ [23, 24, 29, 30, 31, 32, 33, 34, 35, 36, 37, 38, 39] (by decide +kernel) (by decide +kernel)
set_option maxRecDepth 20000 in
theorem gX8_division_X4_tellDivision : GoodIn wsX8_division (wsV RX8 83 RX4 yX4_tellDivision wsX4_tellDivision) := goodIn_app (goodIn_of _ (by decide +kernel)) ggX8_division_X4_tellDivision
theorem dX8_division_0 : decode cX8_division 0 = .ok (.iload_n 1, 1) := by decide +kernel
theorem dX8_division_1 : decode cX8_division 1 = .ok (.iconst 3, 1) := by decide +kernel
theorem dX8_division_2 : decode cX8_division 2 = .ok (.bipush 8, 2) := by decide +kernel
theorem dX8_division_4 : decode cX8_division 4 = .ok (.invokestatic 45, 3) := by decide +kernel
theorem dX8_division_7 : decode cX8_division 7 = .ok (.aload_n 0, 1) := by decide +kernel
theorem dX8_division_8 : decode cX8_division 8 = .ok (.invokevirtual 74, 3) := by decide +kernel
theorem dX8_division_11 : decode cX8_division 11 = .ok (.aload_n 0, 1) := by decide +kernel
theorem dX8_division_12 : decode cX8_division 12 = .ok (.getfield 10, 3) := by decide +kernel
theorem dX8_division_15 : decode cX8_division 15 = .ok (.iload_n 1, 1) := by decide +kernel
theorem dX8_division_16 : decode cX8_division 16 = .ok (.invokevirtual 83, 3) := by decide +kernel
theorem dX8_division_19 : decode cX8_division 19 = .ok (.ireturn, 1) := by decide +kernel
set_option maxRecDepth 20000 in
theorem ggX8_begin_X8_needNoDay : GoodIn wsX8_begin wsX8_needNoDay := goodIn_ca (goodIn_r _ [8, 1, 2, 3, 9, 10, 11, 12, 13, 14, 108, 109, 110, 111, 112, 113, 114, 115, 116, 117, 118, 119, 120, 121, 122] (by decide +kernel) (by decide +kernel)) (goodIn_sub (fun _ h => List.mem_cons_of_mem _ (List.mem_append_right _ h)) (by decide +kernel))
set_option maxRecDepth 20000 in
theorem gX8_begin_X8_needNoDay : GoodIn wsX8_begin (wsV RX8 74 RX8 yX8_needNoDay wsX8_needNoDay) := goodIn_app (goodIn_of _ (by decide +kernel)) ggX8_begin_X8_needNoDay
set_option maxRecDepth 20000 in
theorem ggX8_begin_X4_crewsInChart : GoodIn wsX8_begin wsX4_crewsInChart := goodIn_r _ [18, 19, 20, 21, 22, 23, 24, 25, 112, 113, 114, 115, 116, 117, 118, 119, 120, 121, 122, 123, 124] (by decide +kernel) (by decide +kernel)
set_option maxRecDepth 20000 in
theorem gX8_begin_X4_crewsInChart : GoodIn wsX8_begin (wsV RX8 86 RX4 yX4_crewsInChart wsX4_crewsInChart) := goodIn_app (goodIn_of _ (by decide +kernel)) ggX8_begin_X4_crewsInChart
set_option maxRecDepth 20000 in
theorem ggX8_begin_X4_daysOver : GoodIn wsX8_begin wsX4_daysOver := goodIn_r _ [29, 30, 112, 113, 114, 115, 116, 117, 118, 119, 120, 121, 122] (by decide +kernel) (by decide +kernel)
set_option maxRecDepth 20000 in
theorem gX8_begin_X4_daysOver : GoodIn wsX8_begin (wsV RX8 92 RX4 yX4_daysOver wsX4_daysOver) := goodIn_app (goodIn_of _ (by decide +kernel)) ggX8_begin_X4_daysOver
set_option maxRecDepth 20000 in
theorem ggX8_begin_X4_openDay : GoodIn wsX8_begin wsX4_openDay := goodIn_r _ [34, 19, 35, 14, 36, 30, 20, 21, 22, 23, 24, 25, 37, 38, 12, 39, 40, 41, 42, 43, 44, 45, 46, 47, 48, 49, 50, 51, 52, 53, 54, 55, 56, 57, 58, 59, 60, 61, 62, 63, 64, 65, 66, 67, 68, 69, 70, 71, 72, 73, 74, 75, 76, 77, 78, 79, 80, 81, 82, 83, 84, 85, 86, 87, 88, 89, 90, 91, 92, 93, 94, 95, 96, 97, 98, 99, 100, 101, 102, 103, 104, 105, 106, 107, 112, 113, 114, 115, 116, 117, 118, 119, 120, 121, 122, 123, 124, 125, 126, 127, 128, 129, 130, 131, 132, 133, 134] (by decide +kernel) (by decide +kernel)
set_option maxRecDepth 20000 in
theorem gX8_begin_X4_openDay : GoodIn wsX8_begin (wsV RX8 97 RX4 yX4_openDay wsX4_openDay) := goodIn_app (goodIn_of _ (by decide +kernel)) ggX8_begin_X4_openDay
theorem dX8_begin_0 : decode cX8_begin 0 = .ok (.aload_n 0, 1) := by decide +kernel
theorem dX8_begin_1 : decode cX8_begin 1 = .ok (.invokevirtual 74, 3) := by decide +kernel
theorem dX8_begin_4 : decode cX8_begin 4 = .ok (.aload_n 0, 1) := by decide +kernel
theorem dX8_begin_5 : decode cX8_begin 5 = .ok (.getfield 10, 3) := by decide +kernel
theorem dX8_begin_8 : decode cX8_begin 8 = .ok (.invokevirtual 86, 3) := by decide +kernel
theorem dX8_begin_11 : decode cX8_begin 11 = .ok (.iconst 2, 1) := by decide +kernel
theorem dX8_begin_12 : decode cX8_begin 12 = .ok (.if_icmp .ge 13, 3) := by decide +kernel
theorem dX8_begin_15 : decode cX8_begin 15 = .ok (.new 49, 3) := by decide +kernel
theorem dX8_begin_18 : decode cX8_begin 18 = .ok (.dup, 1) := by decide +kernel
theorem dX8_begin_19 : decode cX8_begin 19 = .ok (.ldc 90, 2) := by decide +kernel
theorem dX8_begin_21 : decode cX8_begin 21 = .ok (.invokespecial 53, 3) := by decide +kernel
theorem dX8_begin_24 : decode cX8_begin 24 = .ok (.athrow, 1) := by decide +kernel
theorem dX8_begin_25 : decode cX8_begin 25 = .ok (.aload_n 0, 1) := by decide +kernel
theorem dX8_begin_26 : decode cX8_begin 26 = .ok (.getfield 10, 3) := by decide +kernel
theorem dX8_begin_29 : decode cX8_begin 29 = .ok (.invokevirtual 92, 3) := by decide +kernel
theorem dX8_begin_32 : decode cX8_begin 32 = .ok (.bipush 16, 2) := by decide +kernel
theorem dX8_begin_34 : decode cX8_begin 34 = .ok (.if_icmp .lt 13, 3) := by decide +kernel
theorem dX8_begin_37 : decode cX8_begin 37 = .ok (.new 49, 3) := by decide +kernel
theorem dX8_begin_40 : decode cX8_begin 40 = .ok (.dup, 1) := by decide +kernel
theorem dX8_begin_41 : decode cX8_begin 41 = .ok (.ldc 95, 2) := by decide +kernel
theorem dX8_begin_43 : decode cX8_begin 43 = .ok (.invokespecial 53, 3) := by decide +kernel
theorem dX8_begin_46 : decode cX8_begin 46 = .ok (.athrow, 1) := by decide +kernel
theorem dX8_begin_47 : decode cX8_begin 47 = .ok (.aload_n 0, 1) := by decide +kernel
theorem dX8_begin_48 : decode cX8_begin 48 = .ok (.getfield 10, 3) := by decide +kernel
theorem dX8_begin_51 : decode cX8_begin 51 = .ok (.invokevirtual 97, 3) := by decide +kernel
theorem dX8_begin_54 : decode cX8_begin 54 = .ok (.ireturn, 1) := by decide +kernel
set_option maxRecDepth 20000 in
theorem ggX8_contact_X8_needCrew : GoodIn wsX8_contact wsX8_needCrew := goodIn_ca (goodIn_r _ [8, 9, 10, 11, 77, 78, 79, 80] (by decide +kernel) (by decide +kernel)) (goodIn_sub (fun _ h => List.mem_cons_of_mem _ (List.mem_append_right _ h)) (by decide +kernel))
set_option maxRecDepth 20000 in
theorem gX8_contact_X8_needCrew : GoodIn wsX8_contact (wsV RX8 64 RX8 yX8_needCrew wsX8_needCrew) := goodIn_app (goodIn_of _ (by decide +kernel)) ggX8_contact_X8_needCrew
set_option maxRecDepth 20000 in
theorem ggX8_contact_X4_nearestAhead : GoodIn wsX8_contact wsX4_nearestAhead := goodIn_r _ [16, 17, 18, 19, 20, 21, 22, 23, 24, 25, 26, 27, 28, 29, 30, 31, 32, 33, 34, 35, 36, 37, 38, 39, 40, 41, 42, 43, 44, 45, 46, 47, 48, 49, 50, 81, 82, 83, 84, 85, 86, 87, 88, 89, 90, 91, 92, 93, 94, 95, 96, 97, 98] (by decide +kernel) (by decide +kernel)
set_option maxRecDepth 20000 in
theorem gX8_contact_X4_nearestAhead : GoodIn wsX8_contact (wsV RX8 100 RX4 yX4_nearestAhead wsX4_nearestAhead) := goodIn_app (goodIn_of _ (by decide +kernel)) ggX8_contact_X4_nearestAhead
set_option maxRecDepth 20000 in
theorem ggX8_contact_X4_bump : GoodIn wsX8_contact wsX4_bump := goodIn_r _ [54, 17, 55, 56, 57, 58, 59, 60, 21, 61, 23, 35, 62, 24, 25, 26, 27, 28, 29, 30, 63, 64, 65, 39, 66, 41, 67, 68, 69, 70, 71, 37, 38, 40, 42, 72, 73, 74, 75, 76, 81, 82, 83, 84, 85, 86, 87, 88, 89, 90, 91, 92, 93, 94, 95, 96, 97, 98] (by decide +kernel) (by decide +kernel)
set_option maxRecDepth 20000 in
theorem gX8_contact_X4_bump : GoodIn wsX8_contact (wsV RX8 105 RX4 yX4_bump wsX4_bump) := goodIn_app (goodIn_of _ (by decide +kernel)) ggX8_contact_X4_bump
theorem dX8_contact_0 : decode cX8_contact 0 = .ok (.aload_n 0, 1) := by decide +kernel
theorem dX8_contact_1 : decode cX8_contact 1 = .ok (.iload_n 1, 1) := by decide +kernel
theorem dX8_contact_2 : decode cX8_contact 2 = .ok (.invokevirtual 64, 3) := by decide +kernel
theorem dX8_contact_5 : decode cX8_contact 5 = .ok (.aload_n 0, 1) := by decide +kernel
theorem dX8_contact_6 : decode cX8_contact 6 = .ok (.getfield 10, 3) := by decide +kernel
theorem dX8_contact_9 : decode cX8_contact 9 = .ok (.iload_n 1, 1) := by decide +kernel
theorem dX8_contact_10 : decode cX8_contact 10 = .ok (.invokevirtual 100, 3) := by decide +kernel
theorem dX8_contact_13 : decode cX8_contact 13 = .ok (.istore_n 2, 1) := by decide +kernel
theorem dX8_contact_14 : decode cX8_contact 14 = .ok (.iload_n 2, 1) := by decide +kernel
theorem dX8_contact_15 : decode cX8_contact 15 = .ok (.iconst (-1), 1) := by decide +kernel
theorem dX8_contact_16 : decode cX8_contact 16 = .ok (.if_icmp .ne 13, 3) := by decide +kernel
theorem dX8_contact_19 : decode cX8_contact 19 = .ok (.new 49, 3) := by decide +kernel
theorem dX8_contact_22 : decode cX8_contact 22 = .ok (.dup, 1) := by decide +kernel
theorem dX8_contact_23 : decode cX8_contact 23 = .ok (.ldc 103, 2) := by decide +kernel
theorem dX8_contact_25 : decode cX8_contact 25 = .ok (.invokespecial 53, 3) := by decide +kernel
theorem dX8_contact_28 : decode cX8_contact 28 = .ok (.athrow, 1) := by decide +kernel
theorem dX8_contact_29 : decode cX8_contact 29 = .ok (.aload_n 0, 1) := by decide +kernel
theorem dX8_contact_30 : decode cX8_contact 30 = .ok (.getfield 10, 3) := by decide +kernel
theorem dX8_contact_33 : decode cX8_contact 33 = .ok (.iload_n 1, 1) := by decide +kernel
theorem dX8_contact_34 : decode cX8_contact 34 = .ok (.iload_n 2, 1) := by decide +kernel
theorem dX8_contact_35 : decode cX8_contact 35 = .ok (.invokevirtual 105, 3) := by decide +kernel
theorem dX8_contact_38 : decode cX8_contact 38 = .ok (.iload_n 2, 1) := by decide +kernel
theorem dX8_contact_39 : decode cX8_contact 39 = .ok (.ireturn, 1) := by decide +kernel
set_option maxRecDepth 20000 in
theorem ggX8_end_X4_dayIsOn : GoodIn wsX8_end wsX4_dayIsOn := goodIn_r _ [8, 9, 164, 165, 166, 167, 168, 169, 170, 171, 172, 173, 174] (by decide +kernel) (by decide +kernel)
set_option maxRecDepth 20000 in
theorem gX8_end_X4_dayIsOn : GoodIn wsX8_end (wsV RX8 108 RX4 yX4_dayIsOn wsX4_dayIsOn) := goodIn_app (goodIn_of _ (by decide +kernel)) ggX8_end_X4_dayIsOn
set_option maxRecDepth 20000 in
theorem ggX8_end_X4_endDivision : GoodIn wsX8_end wsX4_endDivision := goodIn_r _ [13, 14, 9, 15, 16, 17, 18, 19, 20, 21, 22, 23, 24, 25, 26, 27, 28, 29, 30, 31, 32, 33, 34, 35, 36, 37, 38, 39, 40, 41, 42, 43, 44, 45, 46, 47, 48, 49, 50, 51, 52, 53, 54, 7, 55, 56, 57, 58, 59, 60, 61, 62, 63, 64, 65, 66, 67, 68, 69, 70, 71, 72, 73, 74, 75, 76, 77, 78, 79, 80, 81, 82, 83, 84, 85, 86, 87, 88, 89, 90, 91, 92, 93, 94, 95, 96, 97, 98, 99, 100, 101, 102, 103, 104, 105, 106, 107, 108, 109, 110, 111, 112, 113, 114, 115, 116, 117, 118, 119, 120, 121, 122, 123, 124, 125, 126, 127, 128, 129, 130, 131, 132, 133, 134, 135, 136, 137, 138, 139, 140, 141, 142, 143, 144, 145, 146, 147, 148, 149, 150, 151, 152, 153, 154, 155, 156, 157, 158, 159, 164, 165, 166, 167, 168, 169, 170, 171, 172, 173, 174, 175, 176, 177, 178, 179, 180, 181, 182, 183, 184, 185, 186, 187, 188, 189, 190] (by decide +kernel) (by decide +kernel)
set_option maxRecDepth 20000 in
theorem gX8_end_X4_endDivision : GoodIn wsX8_end (wsV RX8 114 RX4 yX4_endDivision wsX4_endDivision) := goodIn_app (goodIn_of _ (by decide +kernel)) ggX8_end_X4_endDivision
theorem dX8_end_0 : decode cX8_end 0 = .ok (.aload_n 0, 1) := by decide +kernel
theorem dX8_end_1 : decode cX8_end 1 = .ok (.getfield 10, 3) := by decide +kernel
theorem dX8_end_4 : decode cX8_end 4 = .ok (.invokevirtual 108, 3) := by decide +kernel
theorem dX8_end_7 : decode cX8_end 7 = .ok (.ifCond .ne 13, 3) := by decide +kernel
theorem dX8_end_10 : decode cX8_end 10 = .ok (.new 49, 3) := by decide +kernel
theorem dX8_end_13 : decode cX8_end 13 = .ok (.dup, 1) := by decide +kernel
theorem dX8_end_14 : decode cX8_end 14 = .ok (.ldc 112, 2) := by decide +kernel
theorem dX8_end_16 : decode cX8_end 16 = .ok (.invokespecial 53, 3) := by decide +kernel
theorem dX8_end_19 : decode cX8_end 19 = .ok (.athrow, 1) := by decide +kernel
theorem dX8_end_20 : decode cX8_end 20 = .ok (.aload_n 0, 1) := by decide +kernel
theorem dX8_end_21 : decode cX8_end 21 = .ok (.getfield 10, 3) := by decide +kernel
theorem dX8_end_24 : decode cX8_end 24 = .ok (.invokevirtual 114, 3) := by decide +kernel
theorem dX8_end_27 : decode cX8_end 27 = .ok (.ireturn, 1) := by decide +kernel
set_option maxRecDepth 20000 in
theorem ggX8_penal_X8_needCrew : GoodIn wsX8_penal wsX8_needCrew := goodIn_ca (goodIn_r _ [6, 7, 8, 9, 103, 104, 105, 106] (by decide +kernel) (by decide +kernel)) (goodIn_sub (fun _ h => List.mem_cons_of_mem _ (List.mem_append_left _ (List.mem_append_left _ (List.mem_append_right _ h)))) (by decide +kernel))
set_option maxRecDepth 20000 in
theorem gX8_penal_X8_needCrew : GoodIn wsX8_penal (wsV RX8 64 RX8 yX8_needCrew wsX8_needCrew) := goodIn_app (goodIn_of _ (by decide +kernel)) ggX8_penal_X8_needCrew
set_option maxRecDepth 20000 in
theorem ggX8_penal_X8_needRange : GoodIn wsX8_penal wsX8_needRange := goodIn_ca (goodIn_r _ [12, 13, 14] (by decide +kernel) (by decide +kernel)) (goodIn_sub (fun _ h => List.mem_cons_of_mem _ (List.mem_append_left _ (List.mem_append_right _ h))) (by decide +kernel))
set_option maxRecDepth 20000 in
theorem gX8_penal_X8_needRange : GoodIn wsX8_penal (va_wsS RX8 45 yX8_needRange wsX8_needRange) := goodIn_app (goodIn_of _ (by decide +kernel)) ggX8_penal_X8_needRange
set_option maxRecDepth 20000 in
theorem ggX8_penal_X8_needInChart : GoodIn wsX8_penal wsX8_needInChart := goodIn_ca (goodIn_r _ [18, 19, 20, 1, 21, 22, 23, 24, 25, 26, 27, 28, 29, 30, 31, 32, 33, 103, 104, 105, 106, 107, 108, 109, 110, 111, 112, 113, 114, 115, 116, 117, 118, 119] (by decide +kernel) (by decide +kernel)) (goodIn_sub (fun _ h => List.mem_cons_of_mem _ (List.mem_append_right _ h)) (by decide +kernel))
set_option maxRecDepth 20000 in
theorem gX8_penal_X8_needInChart : GoodIn wsX8_penal (wsV RX8 80 RX8 yX8_needInChart wsX8_needInChart) := goodIn_app (goodIn_of _ (by decide +kernel)) ggX8_penal_X8_needInChart
set_option maxRecDepth 20000 in
theorem ggX8_penal_X8_needNoDay : GoodIn wsX8_penal wsX8_needNoDay := goodIn_ca (goodIn_r _ [37, 19, 20, 1, 38, 39, 40, 24, 41, 42, 103, 104, 105, 106, 107, 108, 109, 110, 111, 112, 113, 114, 115, 116, 117] (by decide +kernel) (by decide +kernel)) (goodIn_sub (fun _ h => List.mem_cons_of_mem _ (List.mem_append_right _ h)) (by decide +kernel))
set_option maxRecDepth 20000 in
theorem gX8_penal_X8_needNoDay : GoodIn wsX8_penal (wsV RX8 74 RX8 yX8_needNoDay wsX8_needNoDay) := goodIn_app (goodIn_of _ (by decide +kernel)) ggX8_penal_X8_needNoDay
set_option maxRecDepth 20000 in
theorem ggX8_penal_X4_change : GoodIn wsX8_penal wsX4_change := goodIn_r _ [46, 26, 47, 48, 49, 50, 51, 52, 53, 54, 55, 56, 57, 28, 29, 30, 31, 32, 33, 58, 59, 60, 61, 62, 63, 64, 65, 66, 67, 68, 69, 70, 71, 72, 73, 74, 75, 76, 77, 78, 79, 80, 81, 82, 83, 84, 85, 86, 87, 88, 89, 90, 91, 92, 93, 94, 95, 96, 97, 98, 99, 100, 101, 102, 107, 108, 109, 110, 111, 112, 113, 114, 115, 116, 117, 118, 119, 120, 121, 122, 123, 124, 125, 126, 127, 128, 129, 130] (by decide +kernel) (by decide +kernel)
set_option maxRecDepth 20000 in
theorem gX8_penal_X4_change : GoodIn wsX8_penal (wsV RX8 77 RX4 yX4_change wsX4_change) := goodIn_app (goodIn_of _ (by decide +kernel)) ggX8_penal_X4_change
set_option maxRecDepth 20000 in
theorem ggX8_penal_X4_placeOf : GoodIn wsX8_penal wsX4_placeOf := goodIn_r _ [25, 26, 27, 28, 29, 30, 31, 32, 33, 107, 108, 109, 110, 111, 112, 113, 114, 115, 116, 117, 118, 119] (by decide +kernel) (by decide +kernel)
set_option maxRecDepth 20000 in
theorem gX8_penal_X4_placeOf : GoodIn wsX8_penal (wsV RX8 68 RX4 yX4_placeOf wsX4_placeOf) := goodIn_app (goodIn_of _ (by decide +kernel)) ggX8_penal_X4_placeOf
theorem dX8_penal_0 : decode cX8_penal 0 = .ok (.aload_n 0, 1) := by decide +kernel
theorem dX8_penal_1 : decode cX8_penal 1 = .ok (.iload_n 1, 1) := by decide +kernel
theorem dX8_penal_2 : decode cX8_penal 2 = .ok (.invokevirtual 64, 3) := by decide +kernel
theorem dX8_penal_5 : decode cX8_penal 5 = .ok (.iload_n 2, 1) := by decide +kernel
theorem dX8_penal_6 : decode cX8_penal 6 = .ok (.iconst 1, 1) := by decide +kernel
theorem dX8_penal_7 : decode cX8_penal 7 = .ok (.iconst 5, 1) := by decide +kernel
theorem dX8_penal_8 : decode cX8_penal 8 = .ok (.invokestatic 45, 3) := by decide +kernel
theorem dX8_penal_11 : decode cX8_penal 11 = .ok (.aload_n 0, 1) := by decide +kernel
theorem dX8_penal_12 : decode cX8_penal 12 = .ok (.iload_n 1, 1) := by decide +kernel
theorem dX8_penal_13 : decode cX8_penal 13 = .ok (.invokevirtual 80, 3) := by decide +kernel
theorem dX8_penal_16 : decode cX8_penal 16 = .ok (.aload_n 0, 1) := by decide +kernel
theorem dX8_penal_17 : decode cX8_penal 17 = .ok (.invokevirtual 74, 3) := by decide +kernel
theorem dX8_penal_20 : decode cX8_penal 20 = .ok (.aload_n 0, 1) := by decide +kernel
theorem dX8_penal_21 : decode cX8_penal 21 = .ok (.getfield 10, 3) := by decide +kernel
theorem dX8_penal_24 : decode cX8_penal 24 = .ok (.iconst 2, 1) := by decide +kernel
theorem dX8_penal_25 : decode cX8_penal 25 = .ok (.iload_n 1, 1) := by decide +kernel
theorem dX8_penal_26 : decode cX8_penal 26 = .ok (.iload_n 2, 1) := by decide +kernel
theorem dX8_penal_27 : decode cX8_penal 27 = .ok (.invokevirtual 77, 3) := by decide +kernel
theorem dX8_penal_30 : decode cX8_penal 30 = .ok (.aload_n 0, 1) := by decide +kernel
theorem dX8_penal_31 : decode cX8_penal 31 = .ok (.getfield 10, 3) := by decide +kernel
theorem dX8_penal_34 : decode cX8_penal 34 = .ok (.iload_n 1, 1) := by decide +kernel
theorem dX8_penal_35 : decode cX8_penal 35 = .ok (.invokevirtual 68, 3) := by decide +kernel
theorem dX8_penal_38 : decode cX8_penal 38 = .ok (.ireturn, 1) := by decide +kernel
set_option maxRecDepth 20000 in
theorem ggX8_place_X8_needCrew : GoodIn wsX8_place wsX8_needCrew := goodIn_ca (goodIn_r _ [6, 7, 8, 9, 23, 24, 25, 26] (by decide +kernel) (by decide +kernel)) (goodIn_sub (fun _ h => List.mem_cons_of_mem _ (List.mem_append_right _ h)) (by decide +kernel))
set_option maxRecDepth 20000 in
theorem gX8_place_X8_needCrew : GoodIn wsX8_place (wsV RX8 64 RX8 yX8_needCrew wsX8_needCrew) := goodIn_app (goodIn_of _ (by decide +kernel)) ggX8_place_X8_needCrew
set_option maxRecDepth 20000 in
theorem ggX8_place_X4_placeOf : GoodIn wsX8_place wsX4_placeOf := goodIn_r _ [14, 15, 16, 17, 18, 19, 20, 21, 22, 27, 28, 29, 30, 31, 32, 33, 34, 35, 36, 37, 38, 39] (by decide +kernel) (by decide +kernel)
set_option maxRecDepth 20000 in
theorem gX8_place_X4_placeOf : GoodIn wsX8_place (wsV RX8 68 RX4 yX4_placeOf wsX4_placeOf) := goodIn_app (goodIn_of _ (by decide +kernel)) ggX8_place_X4_placeOf
theorem dX8_place_0 : decode cX8_place 0 = .ok (.aload_n 0, 1) := by decide +kernel
theorem dX8_place_1 : decode cX8_place 1 = .ok (.iload_n 1, 1) := by decide +kernel
theorem dX8_place_2 : decode cX8_place 2 = .ok (.invokevirtual 64, 3) := by decide +kernel
theorem dX8_place_5 : decode cX8_place 5 = .ok (.aload_n 0, 1) := by decide +kernel
theorem dX8_place_6 : decode cX8_place 6 = .ok (.getfield 10, 3) := by decide +kernel
theorem dX8_place_9 : decode cX8_place 9 = .ok (.iload_n 1, 1) := by decide +kernel
theorem dX8_place_10 : decode cX8_place 10 = .ok (.invokevirtual 68, 3) := by decide +kernel
theorem dX8_place_13 : decode cX8_place 13 = .ok (.ireturn, 1) := by decide +kernel
set_option maxRecDepth 20000 in
theorem ggX8_placeAnew_X8_needCrew : GoodIn wsX8_placeAnew wsX8_needCrew := goodIn_ca (goodIn_r _ [6, 7, 8, 9, 72, 73, 74, 75] (by decide +kernel) (by decide +kernel)) (goodIn_sub (fun _ h => List.mem_cons_of_mem _ (List.mem_append_right _ h)) (by decide +kernel))
set_option maxRecDepth 20000 in
theorem gX8_placeAnew_X8_needCrew : GoodIn wsX8_placeAnew (wsV RX8 64 RX8 yX8_needCrew wsX8_needCrew) := goodIn_app (goodIn_of _ (by decide +kernel)) ggX8_placeAnew_X8_needCrew
set_option maxRecDepth 20000 in
theorem ggX8_placeAnew_X4_placeByHistory : GoodIn wsX8_placeAnew wsX4_placeByHistory := goodIn_r _ [14, 15, 16, 17, 18, 19, 20, 21, 22, 23, 24, 25, 26, 27, 28, 29, 30, 31, 32, 33, 34, 35, 36, 37, 38, 39, 40, 41, 42, 43, 44, 45, 46, 47, 48, 49, 50, 51, 52, 53, 54, 55, 56, 57, 58, 59, 60, 61, 62, 63, 64, 65, 66, 67, 68, 69, 70, 71, 76, 77, 78, 79, 80, 81, 82, 83, 84, 85, 86, 87, 88, 89, 90, 91, 92] (by decide +kernel) (by decide +kernel)
set_option maxRecDepth 20000 in
theorem gX8_placeAnew_X4_placeByHistory : GoodIn wsX8_placeAnew (wsV RX8 117 RX4 yX4_placeByHistory wsX4_placeByHistory) := goodIn_app (goodIn_of _ (by decide +kernel)) ggX8_placeAnew_X4_placeByHistory
theorem dX8_placeAnew_0 : decode cX8_placeAnew 0 = .ok (.aload_n 0, 1) := by decide +kernel
theorem dX8_placeAnew_1 : decode cX8_placeAnew 1 = .ok (.iload_n 1, 1) := by decide +kernel
theorem dX8_placeAnew_2 : decode cX8_placeAnew 2 = .ok (.invokevirtual 64, 3) := by decide +kernel
theorem dX8_placeAnew_5 : decode cX8_placeAnew 5 = .ok (.aload_n 0, 1) := by decide +kernel
theorem dX8_placeAnew_6 : decode cX8_placeAnew 6 = .ok (.getfield 10, 3) := by decide +kernel
theorem dX8_placeAnew_9 : decode cX8_placeAnew 9 = .ok (.iload_n 1, 1) := by decide +kernel
theorem dX8_placeAnew_10 : decode cX8_placeAnew 10 = .ok (.invokevirtual 117, 3) := by decide +kernel
theorem dX8_placeAnew_13 : decode cX8_placeAnew 13 = .ok (.ireturn, 1) := by decide +kernel
set_option maxRecDepth 20000 in
theorem ggX8_chart_X4_daysOver : GoodIn wsX8_chart wsX4_daysOver := goodIn_r _ [8, 9, 30, 31, 32, 33, 34, 35, 36, 37, 38, 39, 40] (by decide +kernel) (by decide +kernel)
set_option maxRecDepth 20000 in
theorem gX8_chart_X4_daysOver : GoodIn wsX8_chart (wsV RX8 92 RX4 yX4_daysOver wsX4_daysOver) := goodIn_app (goodIn_of _ (by decide +kernel)) ggX8_chart_X4_daysOver
set_option maxRecDepth 20000 in
theorem ggX8_chart_X8_needPlace : GoodIn wsX8_chart wsX8_needPlace := goodIn_ca (goodIn_r _ [13, 1, 2] (by decide +kernel) (by decide +kernel)) (goodIn_sub (fun _ h => List.mem_cons_of_mem _ (List.mem_append_right _ h)) (by decide +kernel))
set_option maxRecDepth 20000 in
theorem gX8_chart_X8_needPlace : GoodIn wsX8_chart (va_wsS RX8 120 yX8_needPlace wsX8_needPlace) := goodIn_app (goodIn_of _ (by decide +kernel)) ggX8_chart_X8_needPlace
set_option maxRecDepth 20000 in
theorem ggX8_chart_X4_crewAtEndOf : GoodIn wsX8_chart wsX4_crewAtEndOf := goodIn_r _ [17, 18, 19, 20, 21, 22, 23, 24, 25, 30, 31, 32, 33, 34, 35, 36, 37, 38, 39, 40, 41, 42] (by decide +kernel) (by decide +kernel)
set_option maxRecDepth 20000 in
theorem gX8_chart_X4_crewAtEndOf : GoodIn wsX8_chart (wsV RX8 131 RX4 yX4_crewAtEndOf wsX4_crewAtEndOf) := goodIn_app (goodIn_of _ (by decide +kernel)) ggX8_chart_X4_crewAtEndOf
theorem dX8_chart_0 : decode cX8_chart 0 = .ok (.iload_n 1, 1) := by decide +kernel
theorem dX8_chart_1 : decode cX8_chart 1 = .ok (.ifCond .lt 14, 3) := by decide +kernel
theorem dX8_chart_4 : decode cX8_chart 4 = .ok (.iload_n 1, 1) := by decide +kernel
theorem dX8_chart_5 : decode cX8_chart 5 = .ok (.aload_n 0, 1) := by decide +kernel
theorem dX8_chart_6 : decode cX8_chart 6 = .ok (.getfield 10, 3) := by decide +kernel
theorem dX8_chart_9 : decode cX8_chart 9 = .ok (.invokevirtual 92, 3) := by decide +kernel
theorem dX8_chart_12 : decode cX8_chart 12 = .ok (.if_icmp .lt 13, 3) := by decide +kernel
theorem dX8_chart_15 : decode cX8_chart 15 = .ok (.new 126, 3) := by decide +kernel
theorem dX8_chart_18 : decode cX8_chart 18 = .ok (.dup, 1) := by decide +kernel
theorem dX8_chart_19 : decode cX8_chart 19 = .ok (.ldc 128, 2) := by decide +kernel
theorem dX8_chart_21 : decode cX8_chart 21 = .ok (.invokespecial 130, 3) := by decide +kernel
theorem dX8_chart_24 : decode cX8_chart 24 = .ok (.athrow, 1) := by decide +kernel
theorem dX8_chart_25 : decode cX8_chart 25 = .ok (.iload_n 2, 1) := by decide +kernel
theorem dX8_chart_26 : decode cX8_chart 26 = .ok (.iconst 0, 1) := by decide +kernel
theorem dX8_chart_27 : decode cX8_chart 27 = .ok (.invokestatic 120, 3) := by decide +kernel
theorem dX8_chart_30 : decode cX8_chart 30 = .ok (.aload_n 0, 1) := by decide +kernel
theorem dX8_chart_31 : decode cX8_chart 31 = .ok (.getfield 10, 3) := by decide +kernel
theorem dX8_chart_34 : decode cX8_chart 34 = .ok (.iload_n 1, 1) := by decide +kernel
theorem dX8_chart_35 : decode cX8_chart 35 = .ok (.iload_n 2, 1) := by decide +kernel
theorem dX8_chart_36 : decode cX8_chart 36 = .ok (.invokevirtual 131, 3) := by decide +kernel
theorem dX8_chart_39 : decode cX8_chart 39 = .ok (.ireturn, 1) := by decide +kernel
set_option maxRecDepth 20000 in
theorem ggX8_bumps_X8_needCrew : GoodIn wsX8_bumps wsX8_needCrew := goodIn_ca (goodIn_r _ [6, 7, 8, 9, 43, 44, 45, 46] (by decide +kernel) (by decide +kernel)) (goodIn_sub (fun _ h => List.mem_cons_of_mem _ (List.mem_append_left _ (List.mem_append_right _ h))) (by decide +kernel))
set_option maxRecDepth 20000 in
theorem gX8_bumps_X8_needCrew : GoodIn wsX8_bumps (wsV RX8 64 RX8 yX8_needCrew wsX8_needCrew) := goodIn_app (goodIn_of _ (by decide +kernel)) ggX8_bumps_X8_needCrew
set_option maxRecDepth 20000 in
theorem ggX8_bumps_X8_needRange : GoodIn wsX8_bumps wsX8_needRange := goodIn_ca (goodIn_r _ [12, 13, 14] (by decide +kernel) (by decide +kernel)) (goodIn_sub (fun _ h => List.mem_cons_of_mem _ (List.mem_append_right _ h)) (by decide +kernel))
set_option maxRecDepth 20000 in
theorem gX8_bumps_X8_needRange : GoodIn wsX8_bumps (va_wsS RX8 45 yX8_needRange wsX8_needRange) := goodIn_app (goodIn_of _ (by decide +kernel)) ggX8_bumps_X8_needRange
set_option maxRecDepth 20000 in
theorem ggX8_bumps_X4_countOf : GoodIn wsX8_bumps wsX4_countOf := goodIn_r _ [19, 20, 21, 22, 23, 24, 25, 26, 27, 28, 29, 30, 31, 32, 33, 34, 35, 36, 37, 38, 39, 40, 41, 42, 47, 48, 49, 50, 51, 52, 53, 54, 55, 56, 57, 58, 59, 60, 61, 62, 63, 64] (by decide +kernel) (by decide +kernel)
set_option maxRecDepth 20000 in
theorem gX8_bumps_X4_countOf : GoodIn wsX8_bumps (wsV RX8 134 RX4 yX4_countOf wsX4_countOf) := goodIn_app (goodIn_of _ (by decide +kernel)) ggX8_bumps_X4_countOf
theorem dX8_bumps_0 : decode cX8_bumps 0 = .ok (.aload_n 0, 1) := by decide +kernel
theorem dX8_bumps_1 : decode cX8_bumps 1 = .ok (.iload_n 1, 1) := by decide +kernel
theorem dX8_bumps_2 : decode cX8_bumps 2 = .ok (.invokevirtual 64, 3) := by decide +kernel
theorem dX8_bumps_5 : decode cX8_bumps 5 = .ok (.iload_n 2, 1) := by decide +kernel
theorem dX8_bumps_6 : decode cX8_bumps 6 = .ok (.iconst 0, 1) := by decide +kernel
theorem dX8_bumps_7 : decode cX8_bumps 7 = .ok (.iconst 4, 1) := by decide +kernel
theorem dX8_bumps_8 : decode cX8_bumps 8 = .ok (.invokestatic 45, 3) := by decide +kernel
theorem dX8_bumps_11 : decode cX8_bumps 11 = .ok (.aload_n 0, 1) := by decide +kernel
theorem dX8_bumps_12 : decode cX8_bumps 12 = .ok (.getfield 10, 3) := by decide +kernel
theorem dX8_bumps_15 : decode cX8_bumps 15 = .ok (.iload_n 1, 1) := by decide +kernel
theorem dX8_bumps_16 : decode cX8_bumps 16 = .ok (.iload_n 2, 1) := by decide +kernel
theorem dX8_bumps_17 : decode cX8_bumps 17 = .ok (.invokevirtual 134, 3) := by decide +kernel
theorem dX8_bumps_20 : decode cX8_bumps 20 = .ok (.ireturn, 1) := by decide +kernel
set_option maxRecDepth 20000 in
theorem ggX8_seed_X8_needCrew : GoodIn wsX8_seed wsX8_needCrew := goodIn_ca (goodIn_r _ [8, 9, 10, 11, 50, 51, 52, 53] (by decide +kernel) (by decide +kernel)) (goodIn_sub (fun _ h => List.mem_cons_of_mem _ (List.mem_append_right _ h)) (by decide +kernel))
set_option maxRecDepth 20000 in
theorem gX8_seed_X8_needCrew : GoodIn wsX8_seed (wsV RX8 64 RX8 yX8_needCrew wsX8_needCrew) := goodIn_app (goodIn_of _ (by decide +kernel)) ggX8_seed_X8_needCrew
set_option maxRecDepth 20000 in
theorem ggX8_seed_X2_isEntered : GoodIn wsX8_seed wsX2_isEntered := goodIn_r _ [16, 17, 18, 19, 20, 21, 22, 23, 24, 54, 55, 56, 57, 58, 59, 60, 61, 62, 63] (by decide +kernel) (by decide +kernel)
set_option maxRecDepth 20000 in
theorem gX8_seed_X2_isEntered : GoodIn wsX8_seed (wsV RX8 137 RX2 yX2_isEntered wsX2_isEntered) := goodIn_app (goodIn_of _ (by decide +kernel)) ggX8_seed_X2_isEntered
set_option maxRecDepth 20000 in
theorem ggX8_seed_X8_needEntering : GoodIn wsX8_seed wsX8_needEntering := goodIn_ca (goodIn_r _ [28, 1, 2, 3, 29, 30, 31, 15, 32, 33, 50, 51, 52, 53, 54, 55, 56, 57, 58, 59, 60, 61] (by decide +kernel) (by decide +kernel)) (goodIn_sub (fun _ h => List.mem_cons_of_mem _ (List.mem_append_left _ (List.mem_append_right _ h))) (by decide +kernel))
set_option maxRecDepth 20000 in
theorem gX8_seed_X8_needEntering : GoodIn wsX8_seed (wsV RX8 143 RX8 yX8_needEntering wsX8_needEntering) := goodIn_app (goodIn_of _ (by decide +kernel)) ggX8_seed_X8_needEntering
set_option maxRecDepth 20000 in
theorem ggX8_seed_X2_addSeed : GoodIn wsX8_seed wsX2_addSeed := goodIn_r _ [37, 17, 38, 39, 40, 21, 41, 23, 42, 43, 44, 45, 24, 46, 47, 48, 49, 54, 55, 56, 57, 58, 59, 60, 61, 62, 63] (by decide +kernel) (by decide +kernel)
set_option maxRecDepth 20000 in
theorem gX8_seed_X2_addSeed : GoodIn wsX8_seed (wsV RX8 146 RX2 yX2_addSeed wsX2_addSeed) := goodIn_app (goodIn_of _ (by decide +kernel)) ggX8_seed_X2_addSeed
theorem dX8_seed_0 : decode cX8_seed 0 = .ok (.aload_n 0, 1) := by decide +kernel
theorem dX8_seed_1 : decode cX8_seed 1 = .ok (.iload_n 1, 1) := by decide +kernel
theorem dX8_seed_2 : decode cX8_seed 2 = .ok (.invokevirtual 64, 3) := by decide +kernel
theorem dX8_seed_5 : decode cX8_seed 5 = .ok (.aload_n 0, 1) := by decide +kernel
theorem dX8_seed_6 : decode cX8_seed 6 = .ok (.getfield 19, 3) := by decide +kernel
theorem dX8_seed_9 : decode cX8_seed 9 = .ok (.iload_n 1, 1) := by decide +kernel
theorem dX8_seed_10 : decode cX8_seed 10 = .ok (.invokevirtual 137, 3) := by decide +kernel
theorem dX8_seed_13 : decode cX8_seed 13 = .ok (.ifCond .eq 13, 3) := by decide +kernel
theorem dX8_seed_16 : decode cX8_seed 16 = .ok (.new 49, 3) := by decide +kernel
theorem dX8_seed_19 : decode cX8_seed 19 = .ok (.dup, 1) := by decide +kernel
theorem dX8_seed_20 : decode cX8_seed 20 = .ok (.ldc 141, 2) := by decide +kernel
theorem dX8_seed_22 : decode cX8_seed 22 = .ok (.invokespecial 53, 3) := by decide +kernel
theorem dX8_seed_25 : decode cX8_seed 25 = .ok (.athrow, 1) := by decide +kernel
theorem dX8_seed_26 : decode cX8_seed 26 = .ok (.aload_n 0, 1) := by decide +kernel
theorem dX8_seed_27 : decode cX8_seed 27 = .ok (.invokevirtual 143, 3) := by decide +kernel
theorem dX8_seed_30 : decode cX8_seed 30 = .ok (.aload_n 0, 1) := by decide +kernel
theorem dX8_seed_31 : decode cX8_seed 31 = .ok (.getfield 19, 3) := by decide +kernel
theorem dX8_seed_34 : decode cX8_seed 34 = .ok (.iload_n 1, 1) := by decide +kernel
theorem dX8_seed_35 : decode cX8_seed 35 = .ok (.invokevirtual 146, 3) := by decide +kernel
theorem dX8_seed_38 : decode cX8_seed 38 = .ok (.ireturn, 1) := by decide +kernel
set_option maxRecDepth 20000 in
theorem ggX8_draw_X8_needEntering : GoodIn wsX8_draw wsX8_needEntering := goodIn_ca (goodIn_r _ [8, 1, 2, 3, 9, 10, 11, 12, 13, 14, 52, 53, 54, 55, 56, 57, 58, 59, 60, 61, 62, 63] (by decide +kernel) (by decide +kernel)) (goodIn_sub (fun _ h => List.mem_cons_of_mem _ (List.mem_append_right _ h)) (by decide +kernel))
set_option maxRecDepth 20000 in
theorem gX8_draw_X8_needEntering : GoodIn wsX8_draw (wsV RX8 143 RX8 yX8_needEntering wsX8_needEntering) := goodIn_app (goodIn_of _ (by decide +kernel)) ggX8_draw_X8_needEntering
set_option maxRecDepth 20000 in
theorem ggX8_draw_X2_entered : GoodIn wsX8_draw wsX2_entered := goodIn_r _ [18, 19, 20, 21, 22, 23, 24, 25, 56, 57, 58, 59, 60, 61, 62, 63, 64, 65] (by decide +kernel) (by decide +kernel)
set_option maxRecDepth 20000 in
theorem gX8_draw_X2_entered : GoodIn wsX8_draw (wsV RX8 149 RX2 yX2_entered wsX2_entered) := goodIn_app (goodIn_of _ (by decide +kernel)) ggX8_draw_X2_entered
set_option maxRecDepth 20000 in
theorem ggX8_draw_X2_drawHeats : GoodIn wsX8_draw wsX2_drawHeats := goodIn_r _ [29, 19, 30, 14, 20, 21, 22, 23, 24, 25, 31, 32, 33, 34, 35, 36, 37, 38, 39, 40, 41, 42, 12, 43, 44, 45, 46, 47, 48, 49, 50, 51, 56, 57, 58, 59, 60, 61, 62, 63, 64, 65, 66, 67] (by decide +kernel) (by decide +kernel)
set_option maxRecDepth 20000 in
theorem gX8_draw_X2_drawHeats : GoodIn wsX8_draw (wsV RX8 154 RX2 yX2_drawHeats wsX2_drawHeats) := goodIn_app (goodIn_of _ (by decide +kernel)) ggX8_draw_X2_drawHeats
theorem dX8_draw_0 : decode cX8_draw 0 = .ok (.aload_n 0, 1) := by decide +kernel
theorem dX8_draw_1 : decode cX8_draw 1 = .ok (.invokevirtual 143, 3) := by decide +kernel
theorem dX8_draw_4 : decode cX8_draw 4 = .ok (.aload_n 0, 1) := by decide +kernel
theorem dX8_draw_5 : decode cX8_draw 5 = .ok (.getfield 19, 3) := by decide +kernel
theorem dX8_draw_8 : decode cX8_draw 8 = .ok (.invokevirtual 149, 3) := by decide +kernel
theorem dX8_draw_11 : decode cX8_draw 11 = .ok (.iconst 2, 1) := by decide +kernel
theorem dX8_draw_12 : decode cX8_draw 12 = .ok (.if_icmp .ge 13, 3) := by decide +kernel
theorem dX8_draw_15 : decode cX8_draw 15 = .ok (.new 49, 3) := by decide +kernel
theorem dX8_draw_18 : decode cX8_draw 18 = .ok (.dup, 1) := by decide +kernel
theorem dX8_draw_19 : decode cX8_draw 19 = .ok (.ldc 152, 2) := by decide +kernel
theorem dX8_draw_21 : decode cX8_draw 21 = .ok (.invokespecial 53, 3) := by decide +kernel
theorem dX8_draw_24 : decode cX8_draw 24 = .ok (.athrow, 1) := by decide +kernel
theorem dX8_draw_25 : decode cX8_draw 25 = .ok (.aload_n 0, 1) := by decide +kernel
theorem dX8_draw_26 : decode cX8_draw 26 = .ok (.getfield 19, 3) := by decide +kernel
theorem dX8_draw_29 : decode cX8_draw 29 = .ok (.invokevirtual 154, 3) := by decide +kernel
theorem dX8_draw_32 : decode cX8_draw 32 = .ok (.ireturn, 1) := by decide +kernel
set_option maxRecDepth 20000 in
theorem ggX8_time_X8_needCrew : GoodIn wsX8_time wsX8_needCrew := goodIn_ca (goodIn_r _ [9, 10, 11, 12, 74, 75, 76, 77] (by decide +kernel) (by decide +kernel)) (goodIn_sub (fun _ h => List.mem_cons_of_mem _ (List.mem_append_left _ (List.mem_append_right _ h))) (by decide +kernel))
set_option maxRecDepth 20000 in
theorem gX8_time_X8_needCrew : GoodIn wsX8_time (wsV RX8 64 RX8 yX8_needCrew wsX8_needCrew) := goodIn_app (goodIn_of _ (by decide +kernel)) ggX8_time_X8_needCrew
set_option maxRecDepth 20000 in
theorem ggX8_time_X8_needRange : GoodIn wsX8_time wsX8_needRange := goodIn_ca (goodIn_r _ [15, 16, 17] (by decide +kernel) (by decide +kernel)) (goodIn_sub (fun _ h => List.mem_cons_of_mem _ (List.mem_append_right _ h)) (by decide +kernel))
set_option maxRecDepth 20000 in
theorem gX8_time_X8_needRange : GoodIn wsX8_time (va_wsS RX8 45 yX8_needRange wsX8_needRange) := goodIn_app (goodIn_of _ (by decide +kernel)) ggX8_time_X8_needRange
set_option maxRecDepth 20000 in
theorem ggX8_time_X2_races : GoodIn wsX8_time wsX2_races := goodIn_r _ [22, 23, 24, 25, 26, 21, 27, 28, 29, 30, 31, 32, 33, 34, 35, 36, 78, 79, 80, 81, 82, 83, 84, 85, 86, 87] (by decide +kernel) (by decide +kernel)
set_option maxRecDepth 20000 in
theorem gX8_time_X2_races : GoodIn wsX8_time (wsV RX8 168 RX2 yX2_races wsX2_races) := goodIn_app (goodIn_of _ (by decide +kernel)) ggX8_time_X2_races
set_option maxRecDepth 20000 in
theorem ggX8_time_X2_tellTime : GoodIn wsX8_time wsX2_tellTime := goodIn_r _ [40, 41, 42, 43, 44, 33, 45, 35, 46, 47, 48, 21, 49, 50, 23, 51, 52, 53, 54, 55, 56, 57, 58, 59, 60, 61, 62, 63, 64, 65, 30, 31, 32, 34, 36, 66, 67, 68, 69, 70, 71, 72, 73, 78, 79, 80, 81, 82, 83, 84, 85, 86, 87, 88, 89] (by decide +kernel) (by decide +kernel)
set_option maxRecDepth 20000 in
theorem gX8_time_X2_tellTime : GoodIn wsX8_time (wsV RX8 173 RX2 yX2_tellTime wsX2_tellTime) := goodIn_app (goodIn_of _ (by decide +kernel)) ggX8_time_X2_tellTime
theorem dX8_time_0 : decode cX8_time 0 = .ok (.aload_n 0, 1) := by decide +kernel
theorem dX8_time_1 : decode cX8_time 1 = .ok (.iload_n 1, 1) := by decide +kernel
theorem dX8_time_2 : decode cX8_time 2 = .ok (.invokevirtual 64, 3) := by decide +kernel
theorem dX8_time_5 : decode cX8_time 5 = .ok (.iload_n 2, 1) := by decide +kernel
theorem dX8_time_6 : decode cX8_time 6 = .ok (.iconst 1, 1) := by decide +kernel
theorem dX8_time_7 : decode cX8_time 7 = .ok (.ldc 167, 2) := by decide +kernel
theorem dX8_time_9 : decode cX8_time 9 = .ok (.invokestatic 45, 3) := by decide +kernel
theorem dX8_time_12 : decode cX8_time 12 = .ok (.aload_n 0, 1) := by decide +kernel
theorem dX8_time_13 : decode cX8_time 13 = .ok (.getfield 19, 3) := by decide +kernel
theorem dX8_time_16 : decode cX8_time 16 = .ok (.iload_n 1, 1) := by decide +kernel
theorem dX8_time_17 : decode cX8_time 17 = .ok (.invokevirtual 168, 3) := by decide +kernel
theorem dX8_time_20 : decode cX8_time 20 = .ok (.ifCond .ne 13, 3) := by decide +kernel
theorem dX8_time_23 : decode cX8_time 23 = .ok (.new 49, 3) := by decide +kernel
theorem dX8_time_26 : decode cX8_time 26 = .ok (.dup, 1) := by decide +kernel
theorem dX8_time_27 : decode cX8_time 27 = .ok (.ldc 171, 2) := by decide +kernel
theorem dX8_time_29 : decode cX8_time 29 = .ok (.invokespecial 53, 3) := by decide +kernel
theorem dX8_time_32 : decode cX8_time 32 = .ok (.athrow, 1) := by decide +kernel
theorem dX8_time_33 : decode cX8_time 33 = .ok (.aload_n 0, 1) := by decide +kernel
theorem dX8_time_34 : decode cX8_time 34 = .ok (.getfield 19, 3) := by decide +kernel
theorem dX8_time_37 : decode cX8_time 37 = .ok (.iload_n 1, 1) := by decide +kernel
theorem dX8_time_38 : decode cX8_time 38 = .ok (.iload_n 2, 1) := by decide +kernel
theorem dX8_time_39 : decode cX8_time 39 = .ok (.invokevirtual 173, 3) := by decide +kernel
theorem dX8_time_42 : decode cX8_time 42 = .ok (.ireturn, 1) := by decide +kernel
set_option maxRecDepth 20000 in
theorem ggX8_next_X2_heatsOfRound : GoodIn wsX8_next wsX2_heatsOfRound := goodIn_r _ [8, 9, 10, 100, 101, 102, 103, 104, 105, 106, 107] (by decide +kernel) (by decide +kernel)
set_option maxRecDepth 20000 in
theorem gX8_next_X2_heatsOfRound : GoodIn wsX8_next (wsV RX8 157 RX2 yX2_heatsOfRound wsX2_heatsOfRound) := goodIn_app (goodIn_of _ (by decide +kernel)) ggX8_next_X2_heatsOfRound
set_option maxRecDepth 20000 in
theorem ggX8_next_X2_endRound : GoodIn wsX8_next wsX2_endRound := goodIn_r _ [14, 9, 10, 15, 16, 17, 7, 18, 19, 20, 21, 22, 23, 24, 25, 26, 27, 28, 29, 30, 31, 32, 33, 34, 35, 36, 37, 38, 39, 40, 41, 42, 43, 44, 45, 46, 47, 48, 49, 50, 51, 52, 53, 54, 55, 56, 57, 58, 59, 60, 61, 62, 63, 64, 65, 66, 67, 68, 69, 70, 71, 72, 73, 74, 75, 76, 77, 78, 79, 80, 81, 82, 83, 84, 85, 86, 87, 88, 89, 90, 91, 92, 93, 94, 95, 100, 101, 102, 103, 104, 105, 106, 107, 108, 109, 110, 111] (by decide +kernel) (by decide +kernel)
set_option maxRecDepth 20000 in
theorem gX8_next_X2_endRound : GoodIn wsX8_next (wsV RX8 178 RX2 yX2_endRound wsX2_endRound) := goodIn_app (goodIn_of _ (by decide +kernel)) ggX8_next_X2_endRound
theorem dX8_next_0 : decode cX8_next 0 = .ok (.aload_n 0, 1) := by decide +kernel
theorem dX8_next_1 : decode cX8_next 1 = .ok (.getfield 19, 3) := by decide +kernel
theorem dX8_next_4 : decode cX8_next 4 = .ok (.invokevirtual 157, 3) := by decide +kernel
theorem dX8_next_7 : decode cX8_next 7 = .ok (.ifCond .ne 13, 3) := by decide +kernel
theorem dX8_next_10 : decode cX8_next 10 = .ok (.new 49, 3) := by decide +kernel
theorem dX8_next_13 : decode cX8_next 13 = .ok (.dup, 1) := by decide +kernel
theorem dX8_next_14 : decode cX8_next 14 = .ok (.ldc 176, 2) := by decide +kernel
theorem dX8_next_16 : decode cX8_next 16 = .ok (.invokespecial 53, 3) := by decide +kernel
theorem dX8_next_19 : decode cX8_next 19 = .ok (.athrow, 1) := by decide +kernel
theorem dX8_next_20 : decode cX8_next 20 = .ok (.aload_n 0, 1) := by decide +kernel
theorem dX8_next_21 : decode cX8_next 21 = .ok (.getfield 19, 3) := by decide +kernel
theorem dX8_next_24 : decode cX8_next 24 = .ok (.invokevirtual 178, 3) := by decide +kernel
theorem dX8_next_27 : decode cX8_next 27 = .ok (.ireturn, 1) := by decide +kernel
set_option maxRecDepth 20000 in
theorem ggX8_regatta_X2_startAnew : GoodIn wsX8_regatta wsX2_startAnew := goodIn_r _ [6, 7, 8, 9, 10, 11, 12, 13, 14, 15, 16, 17, 18, 5, 19, 20, 21, 22, 23, 24, 25, 26, 27, 28, 29, 34, 35, 36, 37, 38, 39, 40, 41, 42, 43, 44, 45] (by decide +kernel) (by decide +kernel)
set_option maxRecDepth 20000 in
theorem gX8_regatta_X2_startAnew : GoodIn wsX8_regatta (wsV RX8 181 RX2 yX2_startAnew wsX2_startAnew) := goodIn_app (goodIn_of _ (by decide +kernel)) ggX8_regatta_X2_startAnew
theorem dX8_regatta_0 : decode cX8_regatta 0 = .ok (.aload_n 0, 1) := by decide +kernel
theorem dX8_regatta_1 : decode cX8_regatta 1 = .ok (.getfield 19, 3) := by decide +kernel
theorem dX8_regatta_4 : decode cX8_regatta 4 = .ok (.invokevirtual 181, 3) := by decide +kernel
theorem dX8_regatta_7 : decode cX8_regatta 7 = .ok (.ireturn, 1) := by decide +kernel
set_option maxRecDepth 20000 in
theorem ggX8_result_X8_needPlace : GoodIn wsX8_result wsX8_needPlace := goodIn_ca (goodIn_r _ [5, 6, 7] (by decide +kernel) (by decide +kernel)) (goodIn_sub (fun _ h => List.mem_cons_of_mem _ (List.mem_append_left _ (List.mem_append_right _ h))) (by decide +kernel))
set_option maxRecDepth 20000 in
theorem gX8_result_X8_needPlace : GoodIn wsX8_result (va_wsS RX8 120 yX8_needPlace wsX8_needPlace) := goodIn_app (goodIn_of _ (by decide +kernel)) ggX8_result_X8_needPlace
set_option maxRecDepth 20000 in
theorem ggX8_result_X8_needOver : GoodIn wsX8_result wsX8_needOver := goodIn_ca (goodIn_r _ [11, 12, 13, 1, 14, 15, 16, 17, 18, 19, 36, 37, 38, 39, 40, 41, 42, 43, 44, 45, 46, 47] (by decide +kernel) (by decide +kernel)) (goodIn_sub (fun _ h => List.mem_cons_of_mem _ (List.mem_append_right _ h)) (by decide +kernel))
set_option maxRecDepth 20000 in
theorem gX8_result_X8_needOver : GoodIn wsX8_result (wsV RX8 184 RX8 yX8_needOver wsX8_needOver) := goodIn_app (goodIn_of _ (by decide +kernel)) ggX8_result_X8_needOver
set_option maxRecDepth 20000 in
theorem ggX8_result_X2_crewOfResults : GoodIn wsX8_result wsX2_crewOfResults := goodIn_r _ [23, 24, 25, 26, 27, 28, 29, 30, 31, 32, 33, 34, 35, 40, 41, 42, 43, 44, 45, 46, 47, 48, 49] (by decide +kernel) (by decide +kernel)
set_option maxRecDepth 20000 in
theorem gX8_result_X2_crewOfResults : GoodIn wsX8_result (wsV RX8 187 RX2 yX2_crewOfResults wsX2_crewOfResults) := goodIn_app (goodIn_of _ (by decide +kernel)) ggX8_result_X2_crewOfResults
theorem dX8_result_0 : decode cX8_result 0 = .ok (.iload_n 1, 1) := by decide +kernel
theorem dX8_result_1 : decode cX8_result 1 = .ok (.iconst 0, 1) := by decide +kernel
theorem dX8_result_2 : decode cX8_result 2 = .ok (.invokestatic 120, 3) := by decide +kernel
theorem dX8_result_5 : decode cX8_result 5 = .ok (.aload_n 0, 1) := by decide +kernel
theorem dX8_result_6 : decode cX8_result 6 = .ok (.invokevirtual 184, 3) := by decide +kernel
theorem dX8_result_9 : decode cX8_result 9 = .ok (.aload_n 0, 1) := by decide +kernel
theorem dX8_result_10 : decode cX8_result 10 = .ok (.getfield 19, 3) := by decide +kernel
theorem dX8_result_13 : decode cX8_result 13 = .ok (.iload_n 1, 1) := by decide +kernel
theorem dX8_result_14 : decode cX8_result 14 = .ok (.invokevirtual 187, 3) := by decide +kernel
theorem dX8_result_17 : decode cX8_result 17 = .ok (.ireturn, 1) := by decide +kernel
set_option maxRecDepth 20000 in
theorem ggX8_verdict_X8_needPlace : GoodIn wsX8_verdict wsX8_needPlace := goodIn_ca (goodIn_r _ [5, 6, 7] (by decide +kernel) (by decide +kernel)) (goodIn_sub (fun _ h => List.mem_cons_of_mem _ (List.mem_append_left _ (List.mem_append_right _ h))) (by decide +kernel))
set_option maxRecDepth 20000 in
theorem gX8_verdict_X8_needPlace : GoodIn wsX8_verdict (va_wsS RX8 120 yX8_needPlace wsX8_needPlace) := goodIn_app (goodIn_of _ (by decide +kernel)) ggX8_verdict_X8_needPlace
set_option maxRecDepth 20000 in
theorem ggX8_verdict_X8_needOver : GoodIn wsX8_verdict wsX8_needOver := goodIn_ca (goodIn_r _ [11, 12, 13, 1, 14, 15, 16, 17, 18, 19, 45, 46, 47, 48, 49, 50, 51, 52, 53, 54, 55, 56] (by decide +kernel) (by decide +kernel)) (goodIn_sub (fun _ h => List.mem_cons_of_mem _ (List.mem_append_right _ h)) (by decide +kernel))
set_option maxRecDepth 20000 in
theorem gX8_verdict_X8_needOver : GoodIn wsX8_verdict (wsV RX8 184 RX8 yX8_needOver wsX8_needOver) := goodIn_app (goodIn_of _ (by decide +kernel)) ggX8_verdict_X8_needOver
set_option maxRecDepth 20000 in
theorem ggX8_verdict_X2_quartersBehind : GoodIn wsX8_verdict wsX2_quartersBehind := goodIn_r _ [23, 24, 25, 26, 27, 28, 29, 30, 31, 32, 33, 34, 35, 36, 37, 38, 39, 40, 41, 42, 43, 44, 49, 50, 51, 52, 53, 54, 55, 56, 57, 58, 59, 60] (by decide +kernel) (by decide +kernel)
set_option maxRecDepth 20000 in
theorem gX8_verdict_X2_quartersBehind : GoodIn wsX8_verdict (wsV RX8 190 RX2 yX2_quartersBehind wsX2_quartersBehind) := goodIn_app (goodIn_of _ (by decide +kernel)) ggX8_verdict_X2_quartersBehind
theorem dX8_verdict_0 : decode cX8_verdict 0 = .ok (.iload_n 1, 1) := by decide +kernel
theorem dX8_verdict_1 : decode cX8_verdict 1 = .ok (.iconst 1, 1) := by decide +kernel
theorem dX8_verdict_2 : decode cX8_verdict 2 = .ok (.invokestatic 120, 3) := by decide +kernel
theorem dX8_verdict_5 : decode cX8_verdict 5 = .ok (.aload_n 0, 1) := by decide +kernel
theorem dX8_verdict_6 : decode cX8_verdict 6 = .ok (.invokevirtual 184, 3) := by decide +kernel
theorem dX8_verdict_9 : decode cX8_verdict 9 = .ok (.aload_n 0, 1) := by decide +kernel
theorem dX8_verdict_10 : decode cX8_verdict 10 = .ok (.getfield 19, 3) := by decide +kernel
theorem dX8_verdict_13 : decode cX8_verdict 13 = .ok (.iload_n 1, 1) := by decide +kernel
theorem dX8_verdict_14 : decode cX8_verdict 14 = .ok (.invokevirtual 190, 3) := by decide +kernel
theorem dX8_verdict_17 : decode cX8_verdict 17 = .ok (.ireturn, 1) := by decide +kernel
set_option maxRecDepth 20000 in
theorem ggX8_head_X8_needCrew : GoodIn wsX8_head wsX8_needCrew := goodIn_ca (goodIn_r _ [8, 9, 10, 11, 37, 38, 39, 40] (by decide +kernel) (by decide +kernel)) (goodIn_sub (fun _ h => List.mem_cons_of_mem _ (List.mem_append_right _ h)) (by decide +kernel))
set_option maxRecDepth 20000 in
theorem gX8_head_X8_needCrew : GoodIn wsX8_head (wsV RX8 64 RX8 yX8_needCrew wsX8_needCrew) := goodIn_app (goodIn_of _ (by decide +kernel)) ggX8_head_X8_needCrew
set_option maxRecDepth 20000 in
theorem ggX8_head_X0_holds : GoodIn wsX8_head wsX0_holds := goodIn_r _ [16, 17, 18, 19, 20, 21, 22, 23, 24, 41, 42, 43, 44, 45, 46] (by decide +kernel) (by decide +kernel)
set_option maxRecDepth 20000 in
theorem gX8_head_X0_holds : GoodIn wsX8_head (wsV RX8 193 RX0 yX0_holds wsX0_holds) := goodIn_app (goodIn_of _ (by decide +kernel)) ggX8_head_X0_holds
set_option maxRecDepth 20000 in
theorem ggX8_head_X0_join : GoodIn wsX8_head wsX0_join := goodIn_r _ [28, 17, 29, 30, 31, 21, 32, 23, 33, 34, 35, 36, 24, 18, 19, 20, 22, 41, 42, 43, 44, 45, 46] (by decide +kernel) (by decide +kernel)
set_option maxRecDepth 20000 in
theorem gX8_head_X0_join : GoodIn wsX8_head (wsV RX8 198 RX0 yX0_join wsX0_join) := goodIn_app (goodIn_of _ (by decide +kernel)) ggX8_head_X0_join
theorem dX8_head_0 : decode cX8_head 0 = .ok (.aload_n 0, 1) := by decide +kernel
theorem dX8_head_1 : decode cX8_head 1 = .ok (.iload_n 1, 1) := by decide +kernel
theorem dX8_head_2 : decode cX8_head 2 = .ok (.invokevirtual 64, 3) := by decide +kernel
theorem dX8_head_5 : decode cX8_head 5 = .ok (.aload_n 0, 1) := by decide +kernel
theorem dX8_head_6 : decode cX8_head 6 = .ok (.getfield 26, 3) := by decide +kernel
theorem dX8_head_9 : decode cX8_head 9 = .ok (.iload_n 1, 1) := by decide +kernel
theorem dX8_head_10 : decode cX8_head 10 = .ok (.invokevirtual 193, 3) := by decide +kernel
theorem dX8_head_13 : decode cX8_head 13 = .ok (.ifCond .eq 13, 3) := by decide +kernel
theorem dX8_head_16 : decode cX8_head 16 = .ok (.new 49, 3) := by decide +kernel
theorem dX8_head_19 : decode cX8_head 19 = .ok (.dup, 1) := by decide +kernel
theorem dX8_head_20 : decode cX8_head 20 = .ok (.ldc 196, 2) := by decide +kernel
theorem dX8_head_22 : decode cX8_head 22 = .ok (.invokespecial 53, 3) := by decide +kernel
theorem dX8_head_25 : decode cX8_head 25 = .ok (.athrow, 1) := by decide +kernel
theorem dX8_head_26 : decode cX8_head 26 = .ok (.aload_n 0, 1) := by decide +kernel
theorem dX8_head_27 : decode cX8_head 27 = .ok (.getfield 26, 3) := by decide +kernel
theorem dX8_head_30 : decode cX8_head 30 = .ok (.iload_n 1, 1) := by decide +kernel
theorem dX8_head_31 : decode cX8_head 31 = .ok (.invokevirtual 198, 3) := by decide +kernel
theorem dX8_head_34 : decode cX8_head 34 = .ok (.ireturn, 1) := by decide +kernel
set_option maxRecDepth 20000 in
theorem ggX8_finish_X8_needCrew : GoodIn wsX8_finish wsX8_needCrew := goodIn_ca (goodIn_r _ [9, 10, 11, 12, 62, 63, 64, 65] (by decide +kernel) (by decide +kernel)) (goodIn_sub (fun _ h => List.mem_cons_of_mem _ (List.mem_append_left _ (List.mem_append_right _ h))) (by decide +kernel))
set_option maxRecDepth 20000 in
theorem gX8_finish_X8_needCrew : GoodIn wsX8_finish (wsV RX8 64 RX8 yX8_needCrew wsX8_needCrew) := goodIn_app (goodIn_of _ (by decide +kernel)) ggX8_finish_X8_needCrew
set_option maxRecDepth 20000 in
theorem ggX8_finish_X8_needRange : GoodIn wsX8_finish wsX8_needRange := goodIn_ca (goodIn_r _ [15, 16, 17] (by decide +kernel) (by decide +kernel)) (goodIn_sub (fun _ h => List.mem_cons_of_mem _ (List.mem_append_right _ h)) (by decide +kernel))
set_option maxRecDepth 20000 in
theorem gX8_finish_X8_needRange : GoodIn wsX8_finish (va_wsS RX8 45 yX8_needRange wsX8_needRange) := goodIn_app (goodIn_of _ (by decide +kernel)) ggX8_finish_X8_needRange
set_option maxRecDepth 20000 in
theorem ggX8_finish_X8_needInHead : GoodIn wsX8_finish wsX8_needInHead := goodIn_ca (goodIn_r _ [21, 1, 2, 4, 22, 23, 24, 25, 26, 27, 28, 29, 30, 31, 32, 33, 34, 62, 63, 64, 65, 66, 67, 68, 69, 70, 71] (by decide +kernel) (by decide +kernel)) (goodIn_sub (fun _ h => List.mem_cons_of_mem _ (List.mem_append_left _ (List.mem_append_left _ (List.mem_append_right _ h)))) (by decide +kernel))
set_option maxRecDepth 20000 in
theorem gX8_finish_X8_needInHead : GoodIn wsX8_finish (wsV RX8 202 RX8 yX8_needInHead wsX8_needInHead) := goodIn_app (goodIn_of _ (by decide +kernel)) ggX8_finish_X8_needInHead
set_option maxRecDepth 20000 in
theorem ggX8_finish_X0_beginning : GoodIn wsX8_finish wsX0_beginning := goodIn_r _ [38, 27, 28, 29, 30, 31, 32, 33, 34, 66, 67, 68, 69, 70, 71] (by decide +kernel) (by decide +kernel)
set_option maxRecDepth 20000 in
theorem gX8_finish_X0_beginning : GoodIn wsX8_finish (wsV RX8 205 RX0 yX0_beginning wsX0_beginning) := goodIn_app (goodIn_of _ (by decide +kernel)) ggX8_finish_X0_beginning
set_option maxRecDepth 20000 in
theorem ggX8_finish_X0_tellFinish : GoodIn wsX8_finish wsX0_tellFinish := goodIn_r _ [42, 43, 44, 45, 46, 47, 48, 49, 50, 51, 52, 25, 53, 54, 55, 56, 57, 58, 59, 60, 61, 36, 37, 38, 27, 28, 29, 30, 31, 32, 33, 34, 66, 67, 68, 69, 72, 73, 70, 71] (by decide +kernel) (by decide +kernel)
set_option maxRecDepth 20000 in
theorem gX8_finish_X0_tellFinish : GoodIn wsX8_finish (wsV RX8 210 RX0 yX0_tellFinish wsX0_tellFinish) := goodIn_app (goodIn_of _ (by decide +kernel)) ggX8_finish_X0_tellFinish
theorem dX8_finish_0 : decode cX8_finish 0 = .ok (.aload_n 0, 1) := by decide +kernel
theorem dX8_finish_1 : decode cX8_finish 1 = .ok (.iload_n 1, 1) := by decide +kernel
theorem dX8_finish_2 : decode cX8_finish 2 = .ok (.invokevirtual 64, 3) := by decide +kernel
theorem dX8_finish_5 : decode cX8_finish 5 = .ok (.iload_n 2, 1) := by decide +kernel
theorem dX8_finish_6 : decode cX8_finish 6 = .ok (.iconst 1, 1) := by decide +kernel
theorem dX8_finish_7 : decode cX8_finish 7 = .ok (.ldc 201, 2) := by decide +kernel
theorem dX8_finish_9 : decode cX8_finish 9 = .ok (.invokestatic 45, 3) := by decide +kernel
theorem dX8_finish_12 : decode cX8_finish 12 = .ok (.aload_n 0, 1) := by decide +kernel
theorem dX8_finish_13 : decode cX8_finish 13 = .ok (.iload_n 1, 1) := by decide +kernel
theorem dX8_finish_14 : decode cX8_finish 14 = .ok (.invokevirtual 202, 3) := by decide +kernel
theorem dX8_finish_17 : decode cX8_finish 17 = .ok (.iload_n 2, 1) := by decide +kernel
theorem dX8_finish_18 : decode cX8_finish 18 = .ok (.aload_n 0, 1) := by decide +kernel
theorem dX8_finish_19 : decode cX8_finish 19 = .ok (.getfield 26, 3) := by decide +kernel
theorem dX8_finish_22 : decode cX8_finish 22 = .ok (.iload_n 1, 1) := by decide +kernel
theorem dX8_finish_23 : decode cX8_finish 23 = .ok (.invokevirtual 205, 3) := by decide +kernel
theorem dX8_finish_26 : decode cX8_finish 26 = .ok (.if_icmp .ge 13, 3) := by decide +kernel
theorem dX8_finish_29 : decode cX8_finish 29 = .ok (.new 49, 3) := by decide +kernel
theorem dX8_finish_32 : decode cX8_finish 32 = .ok (.dup, 1) := by decide +kernel
theorem dX8_finish_33 : decode cX8_finish 33 = .ok (.ldc 208, 2) := by decide +kernel
theorem dX8_finish_35 : decode cX8_finish 35 = .ok (.invokespecial 53, 3) := by decide +kernel
theorem dX8_finish_38 : decode cX8_finish 38 = .ok (.athrow, 1) := by decide +kernel
theorem dX8_finish_39 : decode cX8_finish 39 = .ok (.aload_n 0, 1) := by decide +kernel
theorem dX8_finish_40 : decode cX8_finish 40 = .ok (.getfield 26, 3) := by decide +kernel
theorem dX8_finish_43 : decode cX8_finish 43 = .ok (.iload_n 1, 1) := by decide +kernel
theorem dX8_finish_44 : decode cX8_finish 44 = .ok (.iload_n 2, 1) := by decide +kernel
theorem dX8_finish_45 : decode cX8_finish 45 = .ok (.invokevirtual 210, 3) := by decide +kernel
theorem dX8_finish_48 : decode cX8_finish 48 = .ok (.ireturn, 1) := by decide +kernel
set_option maxRecDepth 20000 in
theorem ggX8_punish_X8_needCrew : GoodIn wsX8_punish wsX8_needCrew := goodIn_ca (goodIn_r _ [8, 9, 10, 11, 59, 60, 61, 62] (by decide +kernel) (by decide +kernel)) (goodIn_sub (fun _ h => List.mem_cons_of_mem _ (List.mem_append_left _ (List.mem_append_right _ h))) (by decide +kernel))
set_option maxRecDepth 20000 in
theorem gX8_punish_X8_needCrew : GoodIn wsX8_punish (wsV RX8 64 RX8 yX8_needCrew wsX8_needCrew) := goodIn_app (goodIn_of _ (by decide +kernel)) ggX8_punish_X8_needCrew
set_option maxRecDepth 20000 in
theorem ggX8_punish_X8_needRange : GoodIn wsX8_punish wsX8_needRange := goodIn_ca (goodIn_r _ [14, 15, 16] (by decide +kernel) (by decide +kernel)) (goodIn_sub (fun _ h => List.mem_cons_of_mem _ (List.mem_append_right _ h)) (by decide +kernel))
set_option maxRecDepth 20000 in
theorem gX8_punish_X8_needRange : GoodIn wsX8_punish (va_wsS RX8 45 yX8_needRange wsX8_needRange) := goodIn_app (goodIn_of _ (by decide +kernel)) ggX8_punish_X8_needRange
set_option maxRecDepth 20000 in
theorem ggX8_punish_X8_needInHead : GoodIn wsX8_punish wsX8_needInHead := goodIn_ca (goodIn_r _ [20, 1, 2, 3, 21, 22, 23, 24, 25, 26, 27, 28, 29, 30, 31, 32, 33, 59, 60, 61, 62, 63, 64, 65, 66, 67, 68] (by decide +kernel) (by decide +kernel)) (goodIn_sub (fun _ h => List.mem_cons_of_mem _ (List.mem_append_left _ (List.mem_append_left _ (List.mem_append_right _ h)))) (by decide +kernel))
set_option maxRecDepth 20000 in
theorem gX8_punish_X8_needInHead : GoodIn wsX8_punish (wsV RX8 202 RX8 yX8_needInHead wsX8_needInHead) := goodIn_app (goodIn_of _ (by decide +kernel)) ggX8_punish_X8_needInHead
set_option maxRecDepth 20000 in
theorem ggX8_punish_X0_penaltiesOf : GoodIn wsX8_punish wsX0_penaltiesOf := goodIn_r _ [37, 38, 39, 40, 41, 42, 43, 44, 45, 63, 64, 65, 66, 69, 70] (by decide +kernel) (by decide +kernel)
set_option maxRecDepth 20000 in
theorem gX8_punish_X0_penaltiesOf : GoodIn wsX8_punish (wsV RX8 213 RX0 yX0_penaltiesOf wsX0_penaltiesOf) := goodIn_app (goodIn_of _ (by decide +kernel)) ggX8_punish_X0_penaltiesOf
set_option maxRecDepth 20000 in
theorem ggX8_punish_X0_addPenalty : GoodIn wsX8_punish wsX0_addPenalty := goodIn_r _ [49, 38, 50, 51, 52, 42, 53, 54, 40, 41, 43, 44, 45, 55, 56, 57, 58, 39, 63, 64, 65, 66, 69, 70] (by decide +kernel) (by decide +kernel)
set_option maxRecDepth 20000 in
theorem gX8_punish_X0_addPenalty : GoodIn wsX8_punish (wsV RX8 218 RX0 yX0_addPenalty wsX0_addPenalty) := goodIn_app (goodIn_of _ (by decide +kernel)) ggX8_punish_X0_addPenalty
theorem dX8_punish_0 : decode cX8_punish 0 = .ok (.aload_n 0, 1) := by decide +kernel
theorem dX8_punish_1 : decode cX8_punish 1 = .ok (.iload_n 1, 1) := by decide +kernel
theorem dX8_punish_2 : decode cX8_punish 2 = .ok (.invokevirtual 64, 3) := by decide +kernel
theorem dX8_punish_5 : decode cX8_punish 5 = .ok (.iload_n 2, 1) := by decide +kernel
theorem dX8_punish_6 : decode cX8_punish 6 = .ok (.iconst 1, 1) := by decide +kernel
theorem dX8_punish_7 : decode cX8_punish 7 = .ok (.bipush 60, 2) := by decide +kernel
theorem dX8_punish_9 : decode cX8_punish 9 = .ok (.invokestatic 45, 3) := by decide +kernel
theorem dX8_punish_12 : decode cX8_punish 12 = .ok (.aload_n 0, 1) := by decide +kernel
theorem dX8_punish_13 : decode cX8_punish 13 = .ok (.iload_n 1, 1) := by decide +kernel
theorem dX8_punish_14 : decode cX8_punish 14 = .ok (.invokevirtual 202, 3) := by decide +kernel
theorem dX8_punish_17 : decode cX8_punish 17 = .ok (.aload_n 0, 1) := by decide +kernel
theorem dX8_punish_18 : decode cX8_punish 18 = .ok (.getfield 26, 3) := by decide +kernel
theorem dX8_punish_21 : decode cX8_punish 21 = .ok (.iload_n 1, 1) := by decide +kernel
theorem dX8_punish_22 : decode cX8_punish 22 = .ok (.invokevirtual 213, 3) := by decide +kernel
theorem dX8_punish_25 : decode cX8_punish 25 = .ok (.iload_n 2, 1) := by decide +kernel
theorem dX8_punish_26 : decode cX8_punish 26 = .ok (.iadd, 1) := by decide +kernel
theorem dX8_punish_27 : decode cX8_punish 27 = .ok (.sipush 600, 3) := by decide +kernel
theorem dX8_punish_30 : decode cX8_punish 30 = .ok (.if_icmp .le 13, 3) := by decide +kernel
theorem dX8_punish_33 : decode cX8_punish 33 = .ok (.new 49, 3) := by decide +kernel
theorem dX8_punish_36 : decode cX8_punish 36 = .ok (.dup, 1) := by decide +kernel
theorem dX8_punish_37 : decode cX8_punish 37 = .ok (.ldc 216, 2) := by decide +kernel
theorem dX8_punish_39 : decode cX8_punish 39 = .ok (.invokespecial 53, 3) := by decide +kernel
theorem dX8_punish_42 : decode cX8_punish 42 = .ok (.athrow, 1) := by decide +kernel
theorem dX8_punish_43 : decode cX8_punish 43 = .ok (.aload_n 0, 1) := by decide +kernel
theorem dX8_punish_44 : decode cX8_punish 44 = .ok (.getfield 26, 3) := by decide +kernel
theorem dX8_punish_47 : decode cX8_punish 47 = .ok (.iload_n 1, 1) := by decide +kernel
theorem dX8_punish_48 : decode cX8_punish 48 = .ok (.iload_n 2, 1) := by decide +kernel
theorem dX8_punish_49 : decode cX8_punish 49 = .ok (.invokevirtual 218, 3) := by decide +kernel
theorem dX8_punish_52 : decode cX8_punish 52 = .ok (.ireturn, 1) := by decide +kernel
set_option maxRecDepth 20000 in
theorem ggX8_rank_X8_needCrew : GoodIn wsX8_rank wsX8_needCrew := goodIn_ca (goodIn_r _ [6, 7, 8, 9, 57, 58, 59, 60] (by decide +kernel) (by decide +kernel)) (goodIn_sub (fun _ h => List.mem_cons_of_mem _ (List.mem_append_right _ h)) (by decide +kernel))
set_option maxRecDepth 20000 in
theorem gX8_rank_X8_needCrew : GoodIn wsX8_rank (wsV RX8 64 RX8 yX8_needCrew wsX8_needCrew) := goodIn_app (goodIn_of _ (by decide +kernel)) ggX8_rank_X8_needCrew
set_option maxRecDepth 20000 in
theorem ggX8_rank_X0_rankOf : GoodIn wsX8_rank wsX0_rankOf := goodIn_r _ [14, 15, 16, 17, 18, 13, 19, 20, 21, 22, 23, 24, 25, 26, 27, 28, 29, 30, 31, 32, 33, 34, 35, 36, 37, 38, 39, 40, 41, 42, 43, 44, 45, 46, 47, 48, 49, 50, 51, 52, 53, 54, 55, 56, 61, 62, 63, 64, 65, 66, 67, 68] (by decide +kernel) (by decide +kernel)
set_option maxRecDepth 20000 in
theorem gX8_rank_X0_rankOf : GoodIn wsX8_rank (wsV RX8 221 RX0 yX0_rankOf wsX0_rankOf) := goodIn_app (goodIn_of _ (by decide +kernel)) ggX8_rank_X0_rankOf
theorem dX8_rank_0 : decode cX8_rank 0 = .ok (.aload_n 0, 1) := by decide +kernel
theorem dX8_rank_1 : decode cX8_rank 1 = .ok (.iload_n 1, 1) := by decide +kernel
theorem dX8_rank_2 : decode cX8_rank 2 = .ok (.invokevirtual 64, 3) := by decide +kernel
theorem dX8_rank_5 : decode cX8_rank 5 = .ok (.aload_n 0, 1) := by decide +kernel
theorem dX8_rank_6 : decode cX8_rank 6 = .ok (.getfield 26, 3) := by decide +kernel
theorem dX8_rank_9 : decode cX8_rank 9 = .ok (.iload_n 1, 1) := by decide +kernel
theorem dX8_rank_10 : decode cX8_rank 10 = .ok (.invokevirtual 221, 3) := by decide +kernel
theorem dX8_rank_13 : decode cX8_rank 13 = .ok (.ireturn, 1) := by decide +kernel
set_option maxRecDepth 20000 in
theorem ggX8_overtook_X8_needCrew : GoodIn wsX8_overtook wsX8_needCrew := goodIn_ca (goodIn_r _ [6, 7, 8, 9, 43, 44, 45, 46] (by decide +kernel) (by decide +kernel)) (goodIn_sub (fun _ h => List.mem_cons_of_mem _ (List.mem_append_right _ h)) (by decide +kernel))
set_option maxRecDepth 20000 in
theorem gX8_overtook_X8_needCrew : GoodIn wsX8_overtook (wsV RX8 64 RX8 yX8_needCrew wsX8_needCrew) := goodIn_app (goodIn_of _ (by decide +kernel)) ggX8_overtook_X8_needCrew
set_option maxRecDepth 20000 in
theorem ggX8_overtook_X0_overtakenBy : GoodIn wsX8_overtook wsX0_overtakenBy := goodIn_r _ [14, 15, 16, 17, 18, 19, 13, 20, 21, 22, 23, 24, 25, 26, 27, 28, 29, 30, 31, 32, 33, 34, 35, 36, 37, 38, 39, 40, 41, 42, 47, 48, 49, 50, 51, 52, 53, 54] (by decide +kernel) (by decide +kernel)
set_option maxRecDepth 20000 in
theorem gX8_overtook_X0_overtakenBy : GoodIn wsX8_overtook (wsV RX8 224 RX0 yX0_overtakenBy wsX0_overtakenBy) := goodIn_app (goodIn_of _ (by decide +kernel)) ggX8_overtook_X0_overtakenBy
theorem dX8_overtook_0 : decode cX8_overtook 0 = .ok (.aload_n 0, 1) := by decide +kernel
theorem dX8_overtook_1 : decode cX8_overtook 1 = .ok (.iload_n 1, 1) := by decide +kernel
theorem dX8_overtook_2 : decode cX8_overtook 2 = .ok (.invokevirtual 64, 3) := by decide +kernel
theorem dX8_overtook_5 : decode cX8_overtook 5 = .ok (.aload_n 0, 1) := by decide +kernel
theorem dX8_overtook_6 : decode cX8_overtook 6 = .ok (.getfield 26, 3) := by decide +kernel
theorem dX8_overtook_9 : decode cX8_overtook 9 = .ok (.iload_n 1, 1) := by decide +kernel
theorem dX8_overtook_10 : decode cX8_overtook 10 = .ok (.invokevirtual 224, 3) := by decide +kernel
theorem dX8_overtook_13 : decode cX8_overtook 13 = .ok (.ireturn, 1) := by decide +kernel
theorem dX8_needCrew_0 : decode cX8_needCrew 0 = .ok (.iload_n 1, 1) := by decide +kernel
theorem dX8_needCrew_1 : decode cX8_needCrew 1 = .ok (.ifCond .lt 11, 3) := by decide +kernel
theorem dX8_needCrew_4 : decode cX8_needCrew 4 = .ok (.iload_n 1, 1) := by decide +kernel
theorem dX8_needCrew_5 : decode cX8_needCrew 5 = .ok (.aload_n 0, 1) := by decide +kernel
theorem dX8_needCrew_6 : decode cX8_needCrew 6 = .ok (.getfield 30, 3) := by decide +kernel
theorem dX8_needCrew_9 : decode cX8_needCrew 9 = .ok (.if_icmp .lt 13, 3) := by decide +kernel
theorem dX8_needCrew_12 : decode cX8_needCrew 12 = .ok (.new 126, 3) := by decide +kernel
theorem dX8_needCrew_15 : decode cX8_needCrew 15 = .ok (.dup, 1) := by decide +kernel
theorem dX8_needCrew_16 : decode cX8_needCrew 16 = .ok (.ldc 227, 2) := by decide +kernel
theorem dX8_needCrew_18 : decode cX8_needCrew 18 = .ok (.invokespecial 130, 3) := by decide +kernel
theorem dX8_needCrew_21 : decode cX8_needCrew 21 = .ok (.athrow, 1) := by decide +kernel
theorem dX8_needCrew_22 : decode cX8_needCrew 22 = .ok (.return_, 1) := by decide +kernel
theorem dX8_needPlace_0 : decode cX8_needPlace 0 = .ok (.iload_n 0, 1) := by decide +kernel
theorem dX8_needPlace_1 : decode cX8_needPlace 1 = .ok (.iload_n 1, 1) := by decide +kernel
theorem dX8_needPlace_2 : decode cX8_needPlace 2 = .ok (.if_icmp .ge 13, 3) := by decide +kernel
theorem dX8_needPlace_5 : decode cX8_needPlace 5 = .ok (.new 126, 3) := by decide +kernel
theorem dX8_needPlace_8 : decode cX8_needPlace 8 = .ok (.dup, 1) := by decide +kernel
theorem dX8_needPlace_9 : decode cX8_needPlace 9 = .ok (.ldc 229, 2) := by decide +kernel
theorem dX8_needPlace_11 : decode cX8_needPlace 11 = .ok (.invokespecial 130, 3) := by decide +kernel
theorem dX8_needPlace_14 : decode cX8_needPlace 14 = .ok (.athrow, 1) := by decide +kernel
theorem dX8_needPlace_15 : decode cX8_needPlace 15 = .ok (.return_, 1) := by decide +kernel
theorem dX8_needRange_0 : decode cX8_needRange 0 = .ok (.iload_n 0, 1) := by decide +kernel
theorem dX8_needRange_1 : decode cX8_needRange 1 = .ok (.iload_n 1, 1) := by decide +kernel
theorem dX8_needRange_2 : decode cX8_needRange 2 = .ok (.if_icmp .lt 8, 3) := by decide +kernel
theorem dX8_needRange_5 : decode cX8_needRange 5 = .ok (.iload_n 0, 1) := by decide +kernel
theorem dX8_needRange_6 : decode cX8_needRange 6 = .ok (.iload_n 2, 1) := by decide +kernel
theorem dX8_needRange_7 : decode cX8_needRange 7 = .ok (.if_icmp .le 13, 3) := by decide +kernel
theorem dX8_needRange_10 : decode cX8_needRange 10 = .ok (.new 38, 3) := by decide +kernel
theorem dX8_needRange_13 : decode cX8_needRange 13 = .ok (.dup, 1) := by decide +kernel
theorem dX8_needRange_14 : decode cX8_needRange 14 = .ok (.ldc 231, 2) := by decide +kernel
theorem dX8_needRange_16 : decode cX8_needRange 16 = .ok (.invokespecial 42, 3) := by decide +kernel
theorem dX8_needRange_19 : decode cX8_needRange 19 = .ok (.athrow, 1) := by decide +kernel
theorem dX8_needRange_20 : decode cX8_needRange 20 = .ok (.return_, 1) := by decide +kernel
set_option maxRecDepth 20000 in
theorem ggX8_needNoDay_X4_dayIsOn : GoodIn wsX8_needNoDay wsX4_dayIsOn := goodIn_r _ [8, 9, 14, 15, 16, 17, 18, 19, 20, 21, 22, 23, 24] (by decide +kernel) (by decide +kernel)
set_option maxRecDepth 20000 in
theorem gX8_needNoDay_X4_dayIsOn : GoodIn wsX8_needNoDay (wsV RX8 108 RX4 yX4_dayIsOn wsX4_dayIsOn) := goodIn_app (goodIn_of _ (by decide +kernel)) ggX8_needNoDay_X4_dayIsOn
theorem dX8_needNoDay_0 : decode cX8_needNoDay 0 = .ok (.aload_n 0, 1) := by decide +kernel
theorem dX8_needNoDay_1 : decode cX8_needNoDay 1 = .ok (.getfield 10, 3) := by decide +kernel
theorem dX8_needNoDay_4 : decode cX8_needNoDay 4 = .ok (.invokevirtual 108, 3) := by decide +kernel
theorem dX8_needNoDay_7 : decode cX8_needNoDay 7 = .ok (.ifCond .eq 13, 3) := by decide +kernel
theorem dX8_needNoDay_10 : decode cX8_needNoDay 10 = .ok (.new 49, 3) := by decide +kernel
theorem dX8_needNoDay_13 : decode cX8_needNoDay 13 = .ok (.dup, 1) := by decide +kernel
theorem dX8_needNoDay_14 : decode cX8_needNoDay 14 = .ok (.ldc 233, 2) := by decide +kernel
theorem dX8_needNoDay_16 : decode cX8_needNoDay 16 = .ok (.invokespecial 53, 3) := by decide +kernel
theorem dX8_needNoDay_19 : decode cX8_needNoDay 19 = .ok (.athrow, 1) := by decide +kernel
theorem dX8_needNoDay_20 : decode cX8_needNoDay 20 = .ok (.return_, 1) := by decide +kernel
set_option maxRecDepth 20000 in
theorem ggX8_needInChart_X4_placeOf : GoodIn wsX8_needInChart wsX4_placeOf := goodIn_r _ [8, 9, 10, 11, 12, 13, 14, 15, 16, 21, 22, 23, 24, 25, 26, 27, 28, 29, 30, 31, 32, 33] (by decide +kernel) (by decide +kernel)
set_option maxRecDepth 20000 in
theorem gX8_needInChart_X4_placeOf : GoodIn wsX8_needInChart (wsV RX8 68 RX4 yX4_placeOf wsX4_placeOf) := goodIn_app (goodIn_of _ (by decide +kernel)) ggX8_needInChart_X4_placeOf
theorem dX8_needInChart_0 : decode cX8_needInChart 0 = .ok (.aload_n 0, 1) := by decide +kernel
theorem dX8_needInChart_1 : decode cX8_needInChart 1 = .ok (.getfield 10, 3) := by decide +kernel
theorem dX8_needInChart_4 : decode cX8_needInChart 4 = .ok (.iload_n 1, 1) := by decide +kernel
theorem dX8_needInChart_5 : decode cX8_needInChart 5 = .ok (.invokevirtual 68, 3) := by decide +kernel
theorem dX8_needInChart_8 : decode cX8_needInChart 8 = .ok (.iconst (-1), 1) := by decide +kernel
theorem dX8_needInChart_9 : decode cX8_needInChart 9 = .ok (.if_icmp .ne 13, 3) := by decide +kernel
theorem dX8_needInChart_12 : decode cX8_needInChart 12 = .ok (.new 49, 3) := by decide +kernel
theorem dX8_needInChart_15 : decode cX8_needInChart 15 = .ok (.dup, 1) := by decide +kernel
theorem dX8_needInChart_16 : decode cX8_needInChart 16 = .ok (.ldc 235, 2) := by decide +kernel
theorem dX8_needInChart_18 : decode cX8_needInChart 18 = .ok (.invokespecial 53, 3) := by decide +kernel
theorem dX8_needInChart_21 : decode cX8_needInChart 21 = .ok (.athrow, 1) := by decide +kernel
theorem dX8_needInChart_22 : decode cX8_needInChart 22 = .ok (.return_, 1) := by decide +kernel
set_option maxRecDepth 20000 in
theorem ggX8_needEntering_X2_roundNow : GoodIn wsX8_needEntering wsX2_roundNow := goodIn_r _ [8, 9, 14, 15, 16, 17, 18, 19, 20, 21] (by decide +kernel) (by decide +kernel)
set_option maxRecDepth 20000 in
theorem gX8_needEntering_X2_roundNow : GoodIn wsX8_needEntering (wsV RX8 237 RX2 yX2_roundNow wsX2_roundNow) := goodIn_app (goodIn_of _ (by decide +kernel)) ggX8_needEntering_X2_roundNow
theorem dX8_needEntering_0 : decode cX8_needEntering 0 = .ok (.aload_n 0, 1) := by decide +kernel
theorem dX8_needEntering_1 : decode cX8_needEntering 1 = .ok (.getfield 19, 3) := by decide +kernel
theorem dX8_needEntering_4 : decode cX8_needEntering 4 = .ok (.invokevirtual 237, 3) := by decide +kernel
theorem dX8_needEntering_7 : decode cX8_needEntering 7 = .ok (.ifCond .eq 13, 3) := by decide +kernel
theorem dX8_needEntering_10 : decode cX8_needEntering 10 = .ok (.new 49, 3) := by decide +kernel
theorem dX8_needEntering_13 : decode cX8_needEntering 13 = .ok (.dup, 1) := by decide +kernel
theorem dX8_needEntering_14 : decode cX8_needEntering 14 = .ok (.ldc 240, 2) := by decide +kernel
theorem dX8_needEntering_16 : decode cX8_needEntering 16 = .ok (.invokespecial 53, 3) := by decide +kernel
theorem dX8_needEntering_19 : decode cX8_needEntering 19 = .ok (.athrow, 1) := by decide +kernel
theorem dX8_needEntering_20 : decode cX8_needEntering 20 = .ok (.return_, 1) := by decide +kernel
set_option maxRecDepth 20000 in
theorem ggX8_needOver_X2_roundNow : GoodIn wsX8_needOver wsX2_roundNow := goodIn_r _ [8, 9, 14, 15, 16, 17, 18, 19, 20, 21] (by decide +kernel) (by decide +kernel)
set_option maxRecDepth 20000 in
theorem gX8_needOver_X2_roundNow : GoodIn wsX8_needOver (wsV RX8 237 RX2 yX2_roundNow wsX2_roundNow) := goodIn_app (goodIn_of _ (by decide +kernel)) ggX8_needOver_X2_roundNow
theorem dX8_needOver_0 : decode cX8_needOver 0 = .ok (.aload_n 0, 1) := by decide +kernel
theorem dX8_needOver_1 : decode cX8_needOver 1 = .ok (.getfield 19, 3) := by decide +kernel
theorem dX8_needOver_4 : decode cX8_needOver 4 = .ok (.invokevirtual 237, 3) := by decide +kernel
theorem dX8_needOver_7 : decode cX8_needOver 7 = .ok (.iconst 3, 1) := by decide +kernel
theorem dX8_needOver_8 : decode cX8_needOver 8 = .ok (.if_icmp .eq 13, 3) := by decide +kernel
theorem dX8_needOver_11 : decode cX8_needOver 11 = .ok (.new 49, 3) := by decide +kernel
theorem dX8_needOver_14 : decode cX8_needOver 14 = .ok (.dup, 1) := by decide +kernel
theorem dX8_needOver_15 : decode cX8_needOver 15 = .ok (.ldc 242, 2) := by decide +kernel
theorem dX8_needOver_17 : decode cX8_needOver 17 = .ok (.invokespecial 53, 3) := by decide +kernel
theorem dX8_needOver_20 : decode cX8_needOver 20 = .ok (.athrow, 1) := by decide +kernel
theorem dX8_needOver_21 : decode cX8_needOver 21 = .ok (.return_, 1) := by decide +kernel
set_option maxRecDepth 20000 in
theorem ggX8_needInHead_X0_holds : GoodIn wsX8_needInHead wsX0_holds := goodIn_r _ [8, 9, 10, 11, 12, 13, 14, 15, 16, 21, 22, 23, 24, 25, 26] (by decide +kernel) (by decide +kernel)
set_option maxRecDepth 20000 in
theorem gX8_needInHead_X0_holds : GoodIn wsX8_needInHead (wsV RX8 193 RX0 yX0_holds wsX0_holds) := goodIn_app (goodIn_of _ (by decide +kernel)) ggX8_needInHead_X0_holds
theorem dX8_needInHead_0 : decode cX8_needInHead 0 = .ok (.aload_n 0, 1) := by decide +kernel
theorem dX8_needInHead_1 : decode cX8_needInHead 1 = .ok (.getfield 26, 3) := by decide +kernel
theorem dX8_needInHead_4 : decode cX8_needInHead 4 = .ok (.iload_n 1, 1) := by decide +kernel
theorem dX8_needInHead_5 : decode cX8_needInHead 5 = .ok (.invokevirtual 193, 3) := by decide +kernel
theorem dX8_needInHead_8 : decode cX8_needInHead 8 = .ok (.ifCond .ne 13, 3) := by decide +kernel
theorem dX8_needInHead_11 : decode cX8_needInHead 11 = .ok (.new 49, 3) := by decide +kernel
theorem dX8_needInHead_14 : decode cX8_needInHead 14 = .ok (.dup, 1) := by decide +kernel
theorem dX8_needInHead_15 : decode cX8_needInHead 15 = .ok (.ldc 244, 2) := by decide +kernel
theorem dX8_needInHead_17 : decode cX8_needInHead 17 = .ok (.invokespecial 53, 3) := by decide +kernel
theorem dX8_needInHead_20 : decode cX8_needInHead 20 = .ok (.athrow, 1) := by decide +kernel
theorem dX8_needInHead_21 : decode cX8_needInHead 21 = .ok (.return_, 1) := by decide +kernel
theorem dJ9_max_7cf53_0 : decode cJ9_max_7cf53 0 = .ok (.iload_n 0, 1) := by decide +kernel
theorem dJ9_max_7cf53_1 : decode cJ9_max_7cf53 1 = .ok (.iload_n 1, 1) := by decide +kernel
theorem dJ9_max_7cf53_2 : decode cJ9_max_7cf53 2 = .ok (.if_icmp .lt 7, 3) := by decide +kernel
theorem dJ9_max_7cf53_5 : decode cJ9_max_7cf53 5 = .ok (.iload_n 0, 1) := by decide +kernel
theorem dJ9_max_7cf53_6 : decode cJ9_max_7cf53 6 = .ok (.goto 4, 3) := by decide +kernel
theorem dJ9_max_7cf53_9 : decode cJ9_max_7cf53 9 = .ok (.iload_n 1, 1) := by decide +kernel
theorem dJ9_max_7cf53_10 : decode cJ9_max_7cf53 10 = .ok (.ireturn, 1) := by decide +kernel
theorem dJ9_min_7cf53_0 : decode cJ9_min_7cf53 0 = .ok (.iload_n 0, 1) := by decide +kernel
theorem dJ9_min_7cf53_1 : decode cJ9_min_7cf53 1 = .ok (.iload_n 1, 1) := by decide +kernel
theorem dJ9_min_7cf53_2 : decode cJ9_min_7cf53 2 = .ok (.if_icmp .gt 7, 3) := by decide +kernel
theorem dJ9_min_7cf53_5 : decode cJ9_min_7cf53 5 = .ok (.iload_n 0, 1) := by decide +kernel
theorem dJ9_min_7cf53_6 : decode cJ9_min_7cf53 6 = .ok (.goto 4, 3) := by decide +kernel
theorem dJ9_min_7cf53_9 : decode cJ9_min_7cf53 9 = .ok (.iload_n 1, 1) := by decide +kernel
theorem dJ9_min_7cf53_10 : decode cJ9_min_7cf53 10 = .ok (.ireturn, 1) := by decide +kernel
