theorem dX0_init_0 : decode cX0_init 0 = .ok (.aload_n 0, 1) := by decide +kernel
theorem dX0_init_1 : decode cX0_init 1 = .ok (.invokespecial 3, 3) := by decide +kernel
theorem dX0_init_4 : decode cX0_init 4 = .ok (.aload_n 0, 1) := by decide +kernel
theorem dX0_init_5 : decode cX0_init 5 = .ok (.bipush 65, 2) := by decide +kernel
theorem dX0_init_7 : decode cX0_init 7 = .ok (.newarray .int, 2) := by decide +kernel
theorem dX0_init_9 : decode cX0_init 9 = .ok (.putfield 9, 3) := by decide +kernel
theorem dX0_init_12 : decode cX0_init 12 = .ok (.aload_n 0, 1) := by decide +kernel
theorem dX0_init_13 : decode cX0_init 13 = .ok (.bipush 65, 2) := by decide +kernel
theorem dX0_init_15 : decode cX0_init 15 = .ok (.newarray .int, 2) := by decide +kernel
theorem dX0_init_17 : decode cX0_init 17 = .ok (.putfield 15, 3) := by decide +kernel
theorem dX0_init_20 : decode cX0_init 20 = .ok (.aload_n 0, 1) := by decide +kernel
theorem dX0_init_21 : decode cX0_init 21 = .ok (.bipush 65, 2) := by decide +kernel
theorem dX0_init_23 : decode cX0_init 23 = .ok (.newarray .int, 2) := by decide +kernel
theorem dX0_init_25 : decode cX0_init 25 = .ok (.putfield 18, 3) := by decide +kernel
theorem dX0_init_28 : decode cX0_init 28 = .ok (.return_, 1) := by decide +kernel
theorem dX0_clear_0 : decode cX0_clear 0 = .ok (.aload_n 0, 1) := by decide +kernel
theorem dX0_clear_1 : decode cX0_clear 1 = .ok (.iconst 0, 1) := by decide +kernel
theorem dX0_clear_2 : decode cX0_clear 2 = .ok (.putfield 21, 3) := by decide +kernel
theorem dX0_clear_5 : decode cX0_clear 5 = .ok (.return_, 1) := by decide +kernel
set_option maxRecDepth 20000 in
theorem ggX0_add_X3_put : GoodIn wsX0_add wsX3_put := goodIn_r _ [7] (by decide +kernel) (by decide +kernel)
set_option maxRecDepth 20000 in
theorem gX0_add_X3_put_n25 : GoodIn wsX0_add (wsX3_put) := ggX0_add_X3_put
theorem dX0_add_0 : decode cX0_add 0 = .ok (.aload_n 0, 1) := by decide +kernel
theorem dX0_add_1 : decode cX0_add 1 = .ok (.getfield 9, 3) := by decide +kernel
theorem dX0_add_4 : decode cX0_add 4 = .ok (.aload_n 0, 1) := by decide +kernel
theorem dX0_add_5 : decode cX0_add 5 = .ok (.getfield 21, 3) := by decide +kernel
theorem dX0_add_8 : decode cX0_add 8 = .ok (.iload_n 1, 1) := by decide +kernel
theorem dX0_add_9 : decode cX0_add 9 = .ok (.invokestatic 25, 3) := by decide +kernel
theorem dX0_add_12 : decode cX0_add 12 = .ok (.aload_n 0, 1) := by decide +kernel
theorem dX0_add_13 : decode cX0_add 13 = .ok (.getfield 15, 3) := by decide +kernel
theorem dX0_add_16 : decode cX0_add 16 = .ok (.aload_n 0, 1) := by decide +kernel
theorem dX0_add_17 : decode cX0_add 17 = .ok (.getfield 21, 3) := by decide +kernel
theorem dX0_add_20 : decode cX0_add 20 = .ok (.iload_n 2, 1) := by decide +kernel
theorem dX0_add_21 : decode cX0_add 21 = .ok (.invokestatic 25, 3) := by decide +kernel
theorem dX0_add_24 : decode cX0_add 24 = .ok (.aload_n 0, 1) := by decide +kernel
theorem dX0_add_25 : decode cX0_add 25 = .ok (.getfield 18, 3) := by decide +kernel
theorem dX0_add_28 : decode cX0_add 28 = .ok (.aload_n 0, 1) := by decide +kernel
theorem dX0_add_29 : decode cX0_add 29 = .ok (.getfield 21, 3) := by decide +kernel
theorem dX0_add_32 : decode cX0_add 32 = .ok (.iload_n 3, 1) := by decide +kernel
theorem dX0_add_33 : decode cX0_add 33 = .ok (.invokestatic 25, 3) := by decide +kernel
theorem dX0_add_36 : decode cX0_add 36 = .ok (.aload_n 0, 1) := by decide +kernel
theorem dX0_add_37 : decode cX0_add 37 = .ok (.dup, 1) := by decide +kernel
theorem dX0_add_38 : decode cX0_add 38 = .ok (.getfield 21, 3) := by decide +kernel
theorem dX0_add_41 : decode cX0_add 41 = .ok (.iconst 1, 1) := by decide +kernel
theorem dX0_add_42 : decode cX0_add 42 = .ok (.iadd, 1) := by decide +kernel
theorem dX0_add_43 : decode cX0_add 43 = .ok (.putfield 21, 3) := by decide +kernel
theorem dX0_add_46 : decode cX0_add 46 = .ok (.return_, 1) := by decide +kernel
set_option maxRecDepth 20000 in
theorem ggX0_lightest_X3_at : GoodIn wsX0_lightest wsX3_at := goodIn_r _ [5] (by decide +kernel) (by decide +kernel)
set_option maxRecDepth 20000 in
theorem gX0_lightest_X3_at_n29 : GoodIn wsX0_lightest (wsX3_at) := ggX0_lightest_X3_at
theorem dX0_lightest_0 : decode cX0_lightest 0 = .ok (.iconst (-1), 1) := by decide +kernel
theorem dX0_lightest_1 : decode cX0_lightest 1 = .ok (.istore_n 1, 1) := by decide +kernel
theorem dX0_lightest_2 : decode cX0_lightest 2 = .ok (.iconst 0, 1) := by decide +kernel
theorem dX0_lightest_3 : decode cX0_lightest 3 = .ok (.istore_n 2, 1) := by decide +kernel
theorem dX0_lightest_4 : decode cX0_lightest 4 = .ok (.iload_n 2, 1) := by decide +kernel
theorem dX0_lightest_5 : decode cX0_lightest 5 = .ok (.aload_n 0, 1) := by decide +kernel
theorem dX0_lightest_6 : decode cX0_lightest 6 = .ok (.getfield 21, 3) := by decide +kernel
theorem dX0_lightest_9 : decode cX0_lightest 9 = .ok (.if_icmp .ge 41, 3) := by decide +kernel
theorem dX0_lightest_12 : decode cX0_lightest 12 = .ok (.aload_n 0, 1) := by decide +kernel
theorem dX0_lightest_13 : decode cX0_lightest 13 = .ok (.getfield 9, 3) := by decide +kernel
theorem dX0_lightest_16 : decode cX0_lightest 16 = .ok (.iload_n 2, 1) := by decide +kernel
theorem dX0_lightest_17 : decode cX0_lightest 17 = .ok (.invokestatic 29, 3) := by decide +kernel
theorem dX0_lightest_20 : decode cX0_lightest 20 = .ok (.istore_n 3, 1) := by decide +kernel
theorem dX0_lightest_21 : decode cX0_lightest 21 = .ok (.iload_n 3, 1) := by decide +kernel
theorem dX0_lightest_22 : decode cX0_lightest 22 = .ok (.ifCond .eq 22, 3) := by decide +kernel
theorem dX0_lightest_25 : decode cX0_lightest 25 = .ok (.iload_n 1, 1) := by decide +kernel
theorem dX0_lightest_26 : decode cX0_lightest 26 = .ok (.iconst (-1), 1) := by decide +kernel
theorem dX0_lightest_27 : decode cX0_lightest 27 = .ok (.if_icmp .eq 15, 3) := by decide +kernel
theorem dX0_lightest_30 : decode cX0_lightest 30 = .ok (.iload_n 3, 1) := by decide +kernel
theorem dX0_lightest_31 : decode cX0_lightest 31 = .ok (.aload_n 0, 1) := by decide +kernel
theorem dX0_lightest_32 : decode cX0_lightest 32 = .ok (.getfield 9, 3) := by decide +kernel
theorem dX0_lightest_35 : decode cX0_lightest 35 = .ok (.iload_n 1, 1) := by decide +kernel
theorem dX0_lightest_36 : decode cX0_lightest 36 = .ok (.invokestatic 29, 3) := by decide +kernel
theorem dX0_lightest_39 : decode cX0_lightest 39 = .ok (.if_icmp .ge 5, 3) := by decide +kernel
theorem dX0_lightest_42 : decode cX0_lightest 42 = .ok (.iload_n 2, 1) := by decide +kernel
theorem dX0_lightest_43 : decode cX0_lightest 43 = .ok (.istore_n 1, 1) := by decide +kernel
theorem dX0_lightest_44 : decode cX0_lightest 44 = .ok (.iinc 2 1, 3) := by decide +kernel
theorem dX0_lightest_47 : decode cX0_lightest 47 = .ok (.goto (-43), 3) := by decide +kernel
theorem dX0_lightest_50 : decode cX0_lightest 50 = .ok (.iload_n 1, 1) := by decide +kernel
theorem dX0_lightest_51 : decode cX0_lightest 51 = .ok (.ireturn, 1) := by decide +kernel
set_option maxRecDepth 20000 in
theorem ggX0_drop_X3_put : GoodIn wsX0_drop wsX3_put := goodIn_r _ [4] (by decide +kernel) (by decide +kernel)
set_option maxRecDepth 20000 in
theorem gX0_drop_X3_put_n25 : GoodIn wsX0_drop (wsX3_put) := ggX0_drop_X3_put
theorem dX0_drop_0 : decode cX0_drop 0 = .ok (.aload_n 0, 1) := by decide +kernel
theorem dX0_drop_1 : decode cX0_drop 1 = .ok (.getfield 9, 3) := by decide +kernel
theorem dX0_drop_4 : decode cX0_drop 4 = .ok (.iload_n 1, 1) := by decide +kernel
theorem dX0_drop_5 : decode cX0_drop 5 = .ok (.iconst 0, 1) := by decide +kernel
theorem dX0_drop_6 : decode cX0_drop 6 = .ok (.invokestatic 25, 3) := by decide +kernel
theorem dX0_drop_9 : decode cX0_drop 9 = .ok (.return_, 1) := by decide +kernel
set_option maxRecDepth 20000 in
theorem ggX1_init_X2_init : GoodIn wsX1_init wsX2_init := goodIn_r _ [10, 11, 2, 3, 12, 13, 14, 15, 16, 17, 18, 19, 20, 21, 22, 23, 24, 25, 26, 27, 28, 29, 30, 31, 32, 33, 34, 35, 6, 36, 37, 38, 39, 40, 41, 42, 43, 44, 45, 46, 47, 48, 53, 54, 55, 56] (by decide +kernel) (by decide +kernel)
set_option maxRecDepth 20000 in
theorem gX1_init_X2_init_n11 : GoodIn wsX1_init (wsX2_init) := ggX1_init_X2_init
theorem dX1_init_0 : decode cX1_init 0 = .ok (.aload_n 0, 1) := by decide +kernel
theorem dX1_init_1 : decode cX1_init 1 = .ok (.invokespecial 3, 3) := by decide +kernel
theorem dX1_init_4 : decode cX1_init 4 = .ok (.aload_n 0, 1) := by decide +kernel
theorem dX1_init_5 : decode cX1_init 5 = .ok (.new 9, 3) := by decide +kernel
theorem dX1_init_8 : decode cX1_init 8 = .ok (.dup, 1) := by decide +kernel
theorem dX1_init_9 : decode cX1_init 9 = .ok (.invokespecial 11, 3) := by decide +kernel
theorem dX1_init_12 : decode cX1_init 12 = .ok (.putfield 12, 3) := by decide +kernel
theorem dX1_init_15 : decode cX1_init 15 = .ok (.aload_n 0, 1) := by decide +kernel
theorem dX1_init_16 : decode cX1_init 16 = .ok (.bipush 64, 2) := by decide +kernel
theorem dX1_init_18 : decode cX1_init 18 = .ok (.putfield 18, 3) := by decide +kernel
theorem dX1_init_21 : decode cX1_init 21 = .ok (.return_, 1) := by decide +kernel
set_option maxRecDepth 20000 in
theorem ggX1_startLike_X2_becomeLike : GoodIn wsX1_startLike wsX2_becomeLike := goodIn_r _ [6, 7, 8, 9, 10, 11, 12, 13, 14, 15, 16, 21, 22, 23, 24, 25, 26, 27, 28, 29] (by decide +kernel) (by decide +kernel)
set_option maxRecDepth 20000 in
theorem gX1_startLike_X2_becomeLike_n22 : GoodIn wsX1_startLike (wsX2_becomeLike) := ggX1_startLike_X2_becomeLike
theorem dX1_startLike_0 : decode cX1_startLike 0 = .ok (.aload_n 0, 1) := by decide +kernel
theorem dX1_startLike_1 : decode cX1_startLike 1 = .ok (.getfield 12, 3) := by decide +kernel
theorem dX1_startLike_4 : decode cX1_startLike 4 = .ok (.aload_n 1, 1) := by decide +kernel
theorem dX1_startLike_5 : decode cX1_startLike 5 = .ok (.getfield 12, 3) := by decide +kernel
theorem dX1_startLike_8 : decode cX1_startLike 8 = .ok (.invokevirtual 22, 3) := by decide +kernel
theorem dX1_startLike_11 : decode cX1_startLike 11 = .ok (.aload_n 0, 1) := by decide +kernel
theorem dX1_startLike_12 : decode cX1_startLike 12 = .ok (.aload_n 1, 1) := by decide +kernel
theorem dX1_startLike_13 : decode cX1_startLike 13 = .ok (.getfield 18, 3) := by decide +kernel
theorem dX1_startLike_16 : decode cX1_startLike 16 = .ok (.putfield 18, 3) := by decide +kernel
theorem dX1_startLike_19 : decode cX1_startLike 19 = .ok (.return_, 1) := by decide +kernel
set_option maxRecDepth 20000 in
theorem ggX1_bitsFor_X2_knows : GoodIn wsX1_bitsFor wsX2_knows := goodIn_r _ [5, 6, 7, 8, 9, 18, 19, 20, 21, 22, 23, 24, 25, 26] (by decide +kernel) (by decide +kernel)
set_option maxRecDepth 20000 in
theorem gX1_bitsFor_X2_knows_n26 : GoodIn wsX1_bitsFor (wsX2_knows) := ggX1_bitsFor_X2_knows
set_option maxRecDepth 20000 in
theorem ggX1_bitsFor_X2_lengthOf : GoodIn wsX1_bitsFor wsX2_lengthOf := goodIn_r _ [12, 13, 6, 7, 8, 9, 18, 19, 20, 21, 22, 23, 24, 25, 26] (by decide +kernel) (by decide +kernel)
set_option maxRecDepth 20000 in
theorem gX1_bitsFor_X2_lengthOf_n30 : GoodIn wsX1_bitsFor (wsX2_lengthOf) := ggX1_bitsFor_X2_lengthOf
theorem dX1_bitsFor_0 : decode cX1_bitsFor 0 = .ok (.aload_n 0, 1) := by decide +kernel
theorem dX1_bitsFor_1 : decode cX1_bitsFor 1 = .ok (.getfield 12, 3) := by decide +kernel
theorem dX1_bitsFor_4 : decode cX1_bitsFor 4 = .ok (.iload_n 1, 1) := by decide +kernel
theorem dX1_bitsFor_5 : decode cX1_bitsFor 5 = .ok (.invokevirtual 26, 3) := by decide +kernel
theorem dX1_bitsFor_8 : decode cX1_bitsFor 8 = .ok (.ifCond .eq 14, 3) := by decide +kernel
theorem dX1_bitsFor_11 : decode cX1_bitsFor 11 = .ok (.aload_n 0, 1) := by decide +kernel
theorem dX1_bitsFor_12 : decode cX1_bitsFor 12 = .ok (.getfield 12, 3) := by decide +kernel
theorem dX1_bitsFor_15 : decode cX1_bitsFor 15 = .ok (.iload_n 1, 1) := by decide +kernel
theorem dX1_bitsFor_16 : decode cX1_bitsFor 16 = .ok (.invokevirtual 30, 3) := by decide +kernel
theorem dX1_bitsFor_19 : decode cX1_bitsFor 19 = .ok (.goto 14, 3) := by decide +kernel
theorem dX1_bitsFor_22 : decode cX1_bitsFor 22 = .ok (.aload_n 0, 1) := by decide +kernel
theorem dX1_bitsFor_23 : decode cX1_bitsFor 23 = .ok (.getfield 12, 3) := by decide +kernel
theorem dX1_bitsFor_26 : decode cX1_bitsFor 26 = .ok (.bipush 32, 2) := by decide +kernel
theorem dX1_bitsFor_28 : decode cX1_bitsFor 28 = .ok (.invokevirtual 30, 3) := by decide +kernel
theorem dX1_bitsFor_31 : decode cX1_bitsFor 31 = .ok (.iconst 5, 1) := by decide +kernel
theorem dX1_bitsFor_32 : decode cX1_bitsFor 32 = .ok (.iadd, 1) := by decide +kernel
theorem dX1_bitsFor_33 : decode cX1_bitsFor 33 = .ok (.ireturn, 1) := by decide +kernel
set_option maxRecDepth 20000 in
theorem ggX1_takeOne_X1_bitsFor : GoodIn wsX1_takeOne wsX1_bitsFor := goodIn_r _ [9, 1, 10, 11, 12, 13, 14, 15, 16, 17, 18, 19, 20, 21, 81, 82, 83, 84, 85, 86, 87, 88, 89, 90, 91, 92, 93] (by decide +kernel) (by decide +kernel)
set_option maxRecDepth 20000 in
theorem gX1_takeOne_X1_bitsFor : GoodIn wsX1_takeOne (wsV RX1 34 RX1 yX1_bitsFor wsX1_bitsFor) := goodIn_app (goodIn_of _ (by decide +kernel)) ggX1_takeOne_X1_bitsFor
set_option maxRecDepth 20000 in
theorem ggX1_takeOne_X2_knows : GoodIn wsX1_takeOne wsX2_knows := goodIn_r _ [13, 14, 15, 16, 17, 85, 86, 87, 88, 89, 90, 91, 92, 93] (by decide +kernel) (by decide +kernel)
set_option maxRecDepth 20000 in
theorem gX1_takeOne_X2_knows_n26 : GoodIn wsX1_takeOne (wsX2_knows) := ggX1_takeOne_X2_knows
set_option maxRecDepth 20000 in
theorem ggX1_takeOne_X2_learn : GoodIn wsX1_takeOne wsX2_learn := goodIn_r _ [24, 14, 25, 15, 16, 17, 26, 27, 28, 11, 29, 30, 31, 32, 21, 33, 34, 85, 86, 87, 88, 89, 90, 91, 92, 93] (by decide +kernel) (by decide +kernel)
set_option maxRecDepth 20000 in
theorem gX1_takeOne_X2_learn_n37 : GoodIn wsX1_takeOne (wsX2_learn) := ggX1_takeOne_X2_learn
set_option maxRecDepth 20000 in
theorem ggX1_takeOne_X2_makeHeavier : GoodIn wsX1_takeOne wsX2_makeHeavier := goodIn_r _ [37, 14, 38, 30, 21, 15, 16, 17, 39, 40, 41, 11, 42, 43, 44, 45, 46, 31, 32, 26, 27, 28, 29, 33, 34, 85, 86, 87, 88, 89, 90, 91, 92, 93] (by decide +kernel) (by decide +kernel)
set_option maxRecDepth 20000 in
theorem gX1_takeOne_X2_makeHeavier_n41 : GoodIn wsX1_takeOne (wsX2_makeHeavier) := ggX1_takeOne_X2_makeHeavier
set_option maxRecDepth 20000 in
theorem ggX1_takeOne_X2_weightOfRoot : GoodIn wsX1_takeOne wsX2_weightOfRoot := goodIn_r _ [49, 30, 15, 16, 17, 85, 86, 87, 88, 89, 90, 91, 92, 93] (by decide +kernel) (by decide +kernel)
set_option maxRecDepth 20000 in
theorem gX1_takeOne_X2_weightOfRoot_n50 : GoodIn wsX1_takeOne (wsX2_weightOfRoot) := ggX1_takeOne_X2_weightOfRoot
set_option maxRecDepth 20000 in
theorem ggX1_takeOne_X2_wearDown : GoodIn wsX1_takeOne wsX2_wearDown := goodIn_r _ [52, 25, 53, 54, 55, 56, 57, 11, 58, 30, 14, 59, 60, 61, 62, 63, 64, 65, 66, 67, 68, 69, 33, 16, 34, 70, 10, 12, 13, 15, 17, 71, 72, 73, 74, 75, 76, 77, 26, 27, 28, 29, 31, 32, 21, 78, 79, 80, 85, 86, 87, 88, 89, 90, 91, 92, 93, 94, 95, 96, 97] (by decide +kernel) (by decide +kernel)
set_option maxRecDepth 20000 in
theorem gX1_takeOne_X2_wearDown_n54 : GoodIn wsX1_takeOne (wsX2_wearDown) := ggX1_takeOne_X2_wearDown
theorem dX1_takeOne_0 : decode cX1_takeOne 0 = .ok (.aload_n 0, 1) := by decide +kernel
theorem dX1_takeOne_1 : decode cX1_takeOne 1 = .ok (.iload_n 1, 1) := by decide +kernel
theorem dX1_takeOne_2 : decode cX1_takeOne 2 = .ok (.invokevirtual 34, 3) := by decide +kernel
theorem dX1_takeOne_5 : decode cX1_takeOne 5 = .ok (.istore_n 2, 1) := by decide +kernel
theorem dX1_takeOne_6 : decode cX1_takeOne 6 = .ok (.aload_n 0, 1) := by decide +kernel
theorem dX1_takeOne_7 : decode cX1_takeOne 7 = .ok (.getfield 12, 3) := by decide +kernel
theorem dX1_takeOne_10 : decode cX1_takeOne 10 = .ok (.iload_n 1, 1) := by decide +kernel
theorem dX1_takeOne_11 : decode cX1_takeOne 11 = .ok (.invokevirtual 26, 3) := by decide +kernel
theorem dX1_takeOne_14 : decode cX1_takeOne 14 = .ok (.ifCond .ne 11, 3) := by decide +kernel
theorem dX1_takeOne_17 : decode cX1_takeOne 17 = .ok (.aload_n 0, 1) := by decide +kernel
theorem dX1_takeOne_18 : decode cX1_takeOne 18 = .ok (.getfield 12, 3) := by decide +kernel
theorem dX1_takeOne_21 : decode cX1_takeOne 21 = .ok (.iload_n 1, 1) := by decide +kernel
theorem dX1_takeOne_22 : decode cX1_takeOne 22 = .ok (.invokevirtual 37, 3) := by decide +kernel
theorem dX1_takeOne_25 : decode cX1_takeOne 25 = .ok (.aload_n 0, 1) := by decide +kernel
theorem dX1_takeOne_26 : decode cX1_takeOne 26 = .ok (.getfield 12, 3) := by decide +kernel
theorem dX1_takeOne_29 : decode cX1_takeOne 29 = .ok (.iload_n 1, 1) := by decide +kernel
theorem dX1_takeOne_30 : decode cX1_takeOne 30 = .ok (.invokevirtual 41, 3) := by decide +kernel
theorem dX1_takeOne_33 : decode cX1_takeOne 33 = .ok (.aload_n 0, 1) := by decide +kernel
theorem dX1_takeOne_34 : decode cX1_takeOne 34 = .ok (.dup, 1) := by decide +kernel
theorem dX1_takeOne_35 : decode cX1_takeOne 35 = .ok (.getfield 44, 3) := by decide +kernel
theorem dX1_takeOne_38 : decode cX1_takeOne 38 = .ok (.iconst 1, 1) := by decide +kernel
theorem dX1_takeOne_39 : decode cX1_takeOne 39 = .ok (.iadd, 1) := by decide +kernel
theorem dX1_takeOne_40 : decode cX1_takeOne 40 = .ok (.putfield 44, 3) := by decide +kernel
theorem dX1_takeOne_43 : decode cX1_takeOne 43 = .ok (.aload_n 0, 1) := by decide +kernel
theorem dX1_takeOne_44 : decode cX1_takeOne 44 = .ok (.dup, 1) := by decide +kernel
theorem dX1_takeOne_45 : decode cX1_takeOne 45 = .ok (.getfield 47, 3) := by decide +kernel
theorem dX1_takeOne_48 : decode cX1_takeOne 48 = .ok (.iload_n 2, 1) := by decide +kernel
theorem dX1_takeOne_49 : decode cX1_takeOne 49 = .ok (.iadd, 1) := by decide +kernel
theorem dX1_takeOne_50 : decode cX1_takeOne 50 = .ok (.putfield 47, 3) := by decide +kernel
theorem dX1_takeOne_53 : decode cX1_takeOne 53 = .ok (.aload_n 0, 1) := by decide +kernel
theorem dX1_takeOne_54 : decode cX1_takeOne 54 = .ok (.getfield 12, 3) := by decide +kernel
theorem dX1_takeOne_57 : decode cX1_takeOne 57 = .ok (.invokevirtual 50, 3) := by decide +kernel
theorem dX1_takeOne_60 : decode cX1_takeOne 60 = .ok (.aload_n 0, 1) := by decide +kernel
theorem dX1_takeOne_61 : decode cX1_takeOne 61 = .ok (.getfield 18, 3) := by decide +kernel
theorem dX1_takeOne_64 : decode cX1_takeOne 64 = .ok (.if_icmp .lt 11, 3) := by decide +kernel
theorem dX1_takeOne_67 : decode cX1_takeOne 67 = .ok (.aload_n 0, 1) := by decide +kernel
theorem dX1_takeOne_68 : decode cX1_takeOne 68 = .ok (.getfield 12, 3) := by decide +kernel
theorem dX1_takeOne_71 : decode cX1_takeOne 71 = .ok (.invokevirtual 54, 3) := by decide +kernel
theorem dX1_takeOne_74 : decode cX1_takeOne 74 = .ok (.pop, 1) := by decide +kernel
theorem dX1_takeOne_75 : decode cX1_takeOne 75 = .ok (.iload_n 2, 1) := by decide +kernel
theorem dX1_takeOne_76 : decode cX1_takeOne 76 = .ok (.ireturn, 1) := by decide +kernel
set_option maxRecDepth 20000 in
theorem ggX1_takeRow_X1_takeOne : GoodIn wsX1_takeRow wsX1_takeOne := goodIn_r _ [5, 6, 7, 8, 9, 10, 11, 12, 4, 13, 14, 15, 16, 17, 18, 19, 20, 21, 22, 23, 24, 25, 26, 27, 28, 29, 30, 31, 32, 33, 34, 35, 36, 37, 38, 39, 40, 41, 42, 43, 44, 45, 46, 47, 48, 49, 50, 51, 52, 53, 54, 55, 56, 57, 58, 59, 60, 61, 62, 63, 64, 65, 66, 67, 68, 69, 70, 71, 72, 73, 74, 75, 76, 77, 78, 79, 80, 81, 82, 83, 84, 85, 86, 87, 88, 89, 90, 91, 92, 93, 94, 95, 96, 97, 98, 99, 100, 101] (by decide +kernel) (by decide +kernel)
set_option maxRecDepth 20000 in
theorem gX1_takeRow_X1_takeOne : GoodIn wsX1_takeRow (wsV RX1 57 RX1 yX1_takeOne wsX1_takeOne) := goodIn_app (goodIn_of _ (by decide +kernel)) ggX1_takeRow_X1_takeOne
theorem dX1_takeRow_0 : decode cX1_takeRow 0 = .ok (.iconst 0, 1) := by decide +kernel
theorem dX1_takeRow_1 : decode cX1_takeRow 1 = .ok (.istore 4, 2) := by decide +kernel
theorem dX1_takeRow_3 : decode cX1_takeRow 3 = .ok (.iconst 0, 1) := by decide +kernel
theorem dX1_takeRow_4 : decode cX1_takeRow 4 = .ok (.istore 5, 2) := by decide +kernel
theorem dX1_takeRow_6 : decode cX1_takeRow 6 = .ok (.iload 5, 2) := by decide +kernel
theorem dX1_takeRow_8 : decode cX1_takeRow 8 = .ok (.iload_n 3, 1) := by decide +kernel
theorem dX1_takeRow_9 : decode cX1_takeRow 9 = .ok (.if_icmp .ge 27, 3) := by decide +kernel
theorem dX1_takeRow_12 : decode cX1_takeRow 12 = .ok (.iload 4, 2) := by decide +kernel
theorem dX1_takeRow_14 : decode cX1_takeRow 14 = .ok (.aload_n 0, 1) := by decide +kernel
theorem dX1_takeRow_15 : decode cX1_takeRow 15 = .ok (.iload_n 1, 1) := by decide +kernel
theorem dX1_takeRow_16 : decode cX1_takeRow 16 = .ok (.iload 5, 2) := by decide +kernel
theorem dX1_takeRow_18 : decode cX1_takeRow 18 = .ok (.iload_n 2, 1) := by decide +kernel
theorem dX1_takeRow_19 : decode cX1_takeRow 19 = .ok (.imul, 1) := by decide +kernel
theorem dX1_takeRow_20 : decode cX1_takeRow 20 = .ok (.iadd, 1) := by decide +kernel
theorem dX1_takeRow_21 : decode cX1_takeRow 21 = .ok (.bipush 32, 2) := by decide +kernel
theorem dX1_takeRow_23 : decode cX1_takeRow 23 = .ok (.irem, 1) := by decide +kernel
theorem dX1_takeRow_24 : decode cX1_takeRow 24 = .ok (.invokevirtual 57, 3) := by decide +kernel
theorem dX1_takeRow_27 : decode cX1_takeRow 27 = .ok (.iadd, 1) := by decide +kernel
theorem dX1_takeRow_28 : decode cX1_takeRow 28 = .ok (.istore 4, 2) := by decide +kernel
theorem dX1_takeRow_30 : decode cX1_takeRow 30 = .ok (.iinc 5 1, 3) := by decide +kernel
theorem dX1_takeRow_33 : decode cX1_takeRow 33 = .ok (.goto (-27), 3) := by decide +kernel
theorem dX1_takeRow_36 : decode cX1_takeRow 36 = .ok (.iload 4, 2) := by decide +kernel
theorem dX1_takeRow_38 : decode cX1_takeRow 38 = .ok (.ireturn, 1) := by decide +kernel
set_option maxRecDepth 20000 in
theorem ggX1_factOfShop_X2_knownLasts : GoodIn wsX1_factOfShop wsX2_knownLasts := goodIn_r _ [8, 9, 21, 22, 23, 24, 25, 26, 27, 28, 29] (by decide +kernel) (by decide +kernel)
set_option maxRecDepth 20000 in
theorem gX1_factOfShop_X2_knownLasts_n60 : GoodIn wsX1_factOfShop (wsX2_knownLasts) := ggX1_factOfShop_X2_knownLasts
set_option maxRecDepth 20000 in
theorem ggX1_factOfShop_X2_weightOfRoot : GoodIn wsX1_factOfShop wsX2_weightOfRoot := goodIn_r _ [12, 13, 14, 15, 16, 21, 22, 23, 24, 25, 26, 27, 28, 29] (by decide +kernel) (by decide +kernel)
set_option maxRecDepth 20000 in
theorem gX1_factOfShop_X2_weightOfRoot_n50 : GoodIn wsX1_factOfShop (wsX2_weightOfRoot) := ggX1_factOfShop_X2_weightOfRoot
theorem dX1_factOfShop_0 : decode cX1_factOfShop 0 = .ok (.iload_n 1, 1) := by decide +kernel
theorem dX1_factOfShop_1 : decode cX1_factOfShop 1 = .ok (.tableswitch 93 0 6 #[43, 51, 59, 67, 72, 77, 85], 43) := by decide +kernel
theorem dX1_factOfShop_44 : decode cX1_factOfShop 44 = .ok (.aload_n 0, 1) := by decide +kernel
theorem dX1_factOfShop_45 : decode cX1_factOfShop 45 = .ok (.getfield 12, 3) := by decide +kernel
theorem dX1_factOfShop_48 : decode cX1_factOfShop 48 = .ok (.invokevirtual 60, 3) := by decide +kernel
theorem dX1_factOfShop_51 : decode cX1_factOfShop 51 = .ok (.ireturn, 1) := by decide +kernel
theorem dX1_factOfShop_52 : decode cX1_factOfShop 52 = .ok (.aload_n 0, 1) := by decide +kernel
theorem dX1_factOfShop_53 : decode cX1_factOfShop 53 = .ok (.getfield 12, 3) := by decide +kernel
theorem dX1_factOfShop_56 : decode cX1_factOfShop 56 = .ok (.getfield 63, 3) := by decide +kernel
theorem dX1_factOfShop_59 : decode cX1_factOfShop 59 = .ok (.ireturn, 1) := by decide +kernel
theorem dX1_factOfShop_60 : decode cX1_factOfShop 60 = .ok (.aload_n 0, 1) := by decide +kernel
theorem dX1_factOfShop_61 : decode cX1_factOfShop 61 = .ok (.getfield 12, 3) := by decide +kernel
theorem dX1_factOfShop_64 : decode cX1_factOfShop 64 = .ok (.invokevirtual 50, 3) := by decide +kernel
theorem dX1_factOfShop_67 : decode cX1_factOfShop 67 = .ok (.ireturn, 1) := by decide +kernel
theorem dX1_factOfShop_68 : decode cX1_factOfShop 68 = .ok (.aload_n 0, 1) := by decide +kernel
theorem dX1_factOfShop_69 : decode cX1_factOfShop 69 = .ok (.getfield 44, 3) := by decide +kernel
theorem dX1_factOfShop_72 : decode cX1_factOfShop 72 = .ok (.ireturn, 1) := by decide +kernel
theorem dX1_factOfShop_73 : decode cX1_factOfShop 73 = .ok (.aload_n 0, 1) := by decide +kernel
theorem dX1_factOfShop_74 : decode cX1_factOfShop 74 = .ok (.getfield 47, 3) := by decide +kernel
theorem dX1_factOfShop_77 : decode cX1_factOfShop 77 = .ok (.ireturn, 1) := by decide +kernel
theorem dX1_factOfShop_78 : decode cX1_factOfShop 78 = .ok (.aload_n 0, 1) := by decide +kernel
theorem dX1_factOfShop_79 : decode cX1_factOfShop 79 = .ok (.getfield 12, 3) := by decide +kernel
theorem dX1_factOfShop_82 : decode cX1_factOfShop 82 = .ok (.getfield 66, 3) := by decide +kernel
theorem dX1_factOfShop_85 : decode cX1_factOfShop 85 = .ok (.ireturn, 1) := by decide +kernel
theorem dX1_factOfShop_86 : decode cX1_factOfShop 86 = .ok (.aload_n 0, 1) := by decide +kernel
theorem dX1_factOfShop_87 : decode cX1_factOfShop 87 = .ok (.getfield 12, 3) := by decide +kernel
theorem dX1_factOfShop_90 : decode cX1_factOfShop 90 = .ok (.getfield 69, 3) := by decide +kernel
theorem dX1_factOfShop_93 : decode cX1_factOfShop 93 = .ok (.ireturn, 1) := by decide +kernel
theorem dX1_factOfShop_94 : decode cX1_factOfShop 94 = .ok (.aload_n 0, 1) := by decide +kernel
theorem dX1_factOfShop_95 : decode cX1_factOfShop 95 = .ok (.getfield 18, 3) := by decide +kernel
theorem dX1_factOfShop_98 : decode cX1_factOfShop 98 = .ok (.ireturn, 1) := by decide +kernel
set_option maxRecDepth 20000 in
theorem ggX2_init_X0_init : GoodIn wsX2_init wsX0_init := goodIn_r _ [16, 17, 2, 3, 4, 18, 19, 20, 42, 43, 44, 45] (by decide +kernel) (by decide +kernel)
set_option maxRecDepth 20000 in
theorem gX2_init_X0_init_n29 : GoodIn wsX2_init (wsX0_init) := ggX2_init_X0_init
set_option maxRecDepth 20000 in
theorem ggX2_init_J7_fill_53178 : GoodIn wsX2_init wsJ7_fill_53178 := goodIn_r _ [24] (by decide +kernel) (by decide +kernel)
set_option maxRecDepth 20000 in
theorem gX2_init_J7_fill_53178 : GoodIn wsX2_init (va_wsS RX2 34 yJ7_fill_53178 wsJ7_fill_53178) := goodIn_app (goodIn_of _ (by decide +kernel)) ggX2_init_J7_fill_53178
set_option maxRecDepth 20000 in
theorem ggX2_init_X2_putNode : GoodIn wsX2_init wsX2_putNode := goodIn_r _ [29, 5, 6, 7, 9, 8, 30, 31, 32, 33, 34, 35, 36, 37, 38, 39, 40, 41] (by decide +kernel) (by decide +kernel)
set_option maxRecDepth 20000 in
theorem gX2_init_X2_putNode : GoodIn wsX2_init (wsV RX2 44 RX2 yX2_putNode wsX2_putNode) := goodIn_app (goodIn_of _ (by decide +kernel)) ggX2_init_X2_putNode
theorem dX2_init_0 : decode cX2_init 0 = .ok (.aload_n 0, 1) := by decide +kernel
theorem dX2_init_1 : decode cX2_init 1 = .ok (.invokespecial 3, 3) := by decide +kernel
theorem dX2_init_4 : decode cX2_init 4 = .ok (.aload_n 0, 1) := by decide +kernel
theorem dX2_init_5 : decode cX2_init 5 = .ok (.bipush 65, 2) := by decide +kernel
theorem dX2_init_7 : decode cX2_init 7 = .ok (.newarray .int, 2) := by decide +kernel
theorem dX2_init_9 : decode cX2_init 9 = .ok (.putfield 9, 3) := by decide +kernel
theorem dX2_init_12 : decode cX2_init 12 = .ok (.aload_n 0, 1) := by decide +kernel
theorem dX2_init_13 : decode cX2_init 13 = .ok (.bipush 65, 2) := by decide +kernel
theorem dX2_init_15 : decode cX2_init 15 = .ok (.newarray .int, 2) := by decide +kernel
theorem dX2_init_17 : decode cX2_init 17 = .ok (.putfield 15, 3) := by decide +kernel
theorem dX2_init_20 : decode cX2_init 20 = .ok (.aload_n 0, 1) := by decide +kernel
theorem dX2_init_21 : decode cX2_init 21 = .ok (.bipush 65, 2) := by decide +kernel
theorem dX2_init_23 : decode cX2_init 23 = .ok (.newarray .int, 2) := by decide +kernel
theorem dX2_init_25 : decode cX2_init 25 = .ok (.putfield 18, 3) := by decide +kernel
theorem dX2_init_28 : decode cX2_init 28 = .ok (.aload_n 0, 1) := by decide +kernel
theorem dX2_init_29 : decode cX2_init 29 = .ok (.bipush 65, 2) := by decide +kernel
theorem dX2_init_31 : decode cX2_init 31 = .ok (.newarray .int, 2) := by decide +kernel
theorem dX2_init_33 : decode cX2_init 33 = .ok (.putfield 21, 3) := by decide +kernel
theorem dX2_init_36 : decode cX2_init 36 = .ok (.aload_n 0, 1) := by decide +kernel
theorem dX2_init_37 : decode cX2_init 37 = .ok (.bipush 33, 2) := by decide +kernel
theorem dX2_init_39 : decode cX2_init 39 = .ok (.newarray .int, 2) := by decide +kernel
theorem dX2_init_41 : decode cX2_init 41 = .ok (.putfield 24, 3) := by decide +kernel
theorem dX2_init_44 : decode cX2_init 44 = .ok (.aload_n 0, 1) := by decide +kernel
theorem dX2_init_45 : decode cX2_init 45 = .ok (.new 27, 3) := by decide +kernel
theorem dX2_init_48 : decode cX2_init 48 = .ok (.dup, 1) := by decide +kernel
theorem dX2_init_49 : decode cX2_init 49 = .ok (.invokespecial 29, 3) := by decide +kernel
theorem dX2_init_52 : decode cX2_init 52 = .ok (.putfield 30, 3) := by decide +kernel
theorem dX2_init_55 : decode cX2_init 55 = .ok (.aload_n 0, 1) := by decide +kernel
theorem dX2_init_56 : decode cX2_init 56 = .ok (.getfield 21, 3) := by decide +kernel
theorem dX2_init_59 : decode cX2_init 59 = .ok (.iconst (-1), 1) := by decide +kernel
theorem dX2_init_60 : decode cX2_init 60 = .ok (.invokestatic 34, 3) := by decide +kernel
theorem dX2_init_63 : decode cX2_init 63 = .ok (.aload_n 0, 1) := by decide +kernel
theorem dX2_init_64 : decode cX2_init 64 = .ok (.getfield 24, 3) := by decide +kernel
theorem dX2_init_67 : decode cX2_init 67 = .ok (.iconst (-1), 1) := by decide +kernel
theorem dX2_init_68 : decode cX2_init 68 = .ok (.invokestatic 34, 3) := by decide +kernel
theorem dX2_init_71 : decode cX2_init 71 = .ok (.aload_n 0, 1) := by decide +kernel
theorem dX2_init_72 : decode cX2_init 72 = .ok (.iconst 1, 1) := by decide +kernel
theorem dX2_init_73 : decode cX2_init 73 = .ok (.putfield 40, 3) := by decide +kernel
theorem dX2_init_76 : decode cX2_init 76 = .ok (.aload_n 0, 1) := by decide +kernel
theorem dX2_init_77 : decode cX2_init 77 = .ok (.iconst 0, 1) := by decide +kernel
theorem dX2_init_78 : decode cX2_init 78 = .ok (.iconst 1, 1) := by decide +kernel
theorem dX2_init_79 : decode cX2_init 79 = .ok (.bipush 32, 2) := by decide +kernel
theorem dX2_init_81 : decode cX2_init 81 = .ok (.iconst (-1), 1) := by decide +kernel
theorem dX2_init_82 : decode cX2_init 82 = .ok (.invokevirtual 44, 3) := by decide +kernel
theorem dX2_init_85 : decode cX2_init 85 = .ok (.return_, 1) := by decide +kernel
theorem dX2_becomeLike_0 : decode cX2_becomeLike 0 = .ok (.aload_n 1, 1) := by decide +kernel
theorem dX2_becomeLike_1 : decode cX2_becomeLike 1 = .ok (.getfield 9, 3) := by decide +kernel
theorem dX2_becomeLike_4 : decode cX2_becomeLike 4 = .ok (.iconst 0, 1) := by decide +kernel
theorem dX2_becomeLike_5 : decode cX2_becomeLike 5 = .ok (.aload_n 0, 1) := by decide +kernel
theorem dX2_becomeLike_6 : decode cX2_becomeLike 6 = .ok (.getfield 9, 3) := by decide +kernel
theorem dX2_becomeLike_9 : decode cX2_becomeLike 9 = .ok (.iconst 0, 1) := by decide +kernel
theorem dX2_becomeLike_10 : decode cX2_becomeLike 10 = .ok (.bipush 65, 2) := by decide +kernel
theorem dX2_becomeLike_12 : decode cX2_becomeLike 12 = .ok (.invokestatic 48, 3) := by decide +kernel
theorem dX2_becomeLike_15 : decode cX2_becomeLike 15 = .ok (.aload_n 1, 1) := by decide +kernel
theorem dX2_becomeLike_16 : decode cX2_becomeLike 16 = .ok (.getfield 15, 3) := by decide +kernel
theorem dX2_becomeLike_19 : decode cX2_becomeLike 19 = .ok (.iconst 0, 1) := by decide +kernel
theorem dX2_becomeLike_20 : decode cX2_becomeLike 20 = .ok (.aload_n 0, 1) := by decide +kernel
theorem dX2_becomeLike_21 : decode cX2_becomeLike 21 = .ok (.getfield 15, 3) := by decide +kernel
theorem dX2_becomeLike_24 : decode cX2_becomeLike 24 = .ok (.iconst 0, 1) := by decide +kernel
theorem dX2_becomeLike_25 : decode cX2_becomeLike 25 = .ok (.bipush 65, 2) := by decide +kernel
theorem dX2_becomeLike_27 : decode cX2_becomeLike 27 = .ok (.invokestatic 48, 3) := by decide +kernel
theorem dX2_becomeLike_30 : decode cX2_becomeLike 30 = .ok (.aload_n 1, 1) := by decide +kernel
theorem dX2_becomeLike_31 : decode cX2_becomeLike 31 = .ok (.getfield 18, 3) := by decide +kernel
theorem dX2_becomeLike_34 : decode cX2_becomeLike 34 = .ok (.iconst 0, 1) := by decide +kernel
theorem dX2_becomeLike_35 : decode cX2_becomeLike 35 = .ok (.aload_n 0, 1) := by decide +kernel
theorem dX2_becomeLike_36 : decode cX2_becomeLike 36 = .ok (.getfield 18, 3) := by decide +kernel
theorem dX2_becomeLike_39 : decode cX2_becomeLike 39 = .ok (.iconst 0, 1) := by decide +kernel
theorem dX2_becomeLike_40 : decode cX2_becomeLike 40 = .ok (.bipush 65, 2) := by decide +kernel
theorem dX2_becomeLike_42 : decode cX2_becomeLike 42 = .ok (.invokestatic 48, 3) := by decide +kernel
theorem dX2_becomeLike_45 : decode cX2_becomeLike 45 = .ok (.aload_n 1, 1) := by decide +kernel
theorem dX2_becomeLike_46 : decode cX2_becomeLike 46 = .ok (.getfield 21, 3) := by decide +kernel
theorem dX2_becomeLike_49 : decode cX2_becomeLike 49 = .ok (.iconst 0, 1) := by decide +kernel
theorem dX2_becomeLike_50 : decode cX2_becomeLike 50 = .ok (.aload_n 0, 1) := by decide +kernel
theorem dX2_becomeLike_51 : decode cX2_becomeLike 51 = .ok (.getfield 21, 3) := by decide +kernel
theorem dX2_becomeLike_54 : decode cX2_becomeLike 54 = .ok (.iconst 0, 1) := by decide +kernel
theorem dX2_becomeLike_55 : decode cX2_becomeLike 55 = .ok (.bipush 65, 2) := by decide +kernel
theorem dX2_becomeLike_57 : decode cX2_becomeLike 57 = .ok (.invokestatic 48, 3) := by decide +kernel
theorem dX2_becomeLike_60 : decode cX2_becomeLike 60 = .ok (.aload_n 1, 1) := by decide +kernel
theorem dX2_becomeLike_61 : decode cX2_becomeLike 61 = .ok (.getfield 24, 3) := by decide +kernel
theorem dX2_becomeLike_64 : decode cX2_becomeLike 64 = .ok (.iconst 0, 1) := by decide +kernel
theorem dX2_becomeLike_65 : decode cX2_becomeLike 65 = .ok (.aload_n 0, 1) := by decide +kernel
theorem dX2_becomeLike_66 : decode cX2_becomeLike 66 = .ok (.getfield 24, 3) := by decide +kernel
theorem dX2_becomeLike_69 : decode cX2_becomeLike 69 = .ok (.iconst 0, 1) := by decide +kernel
theorem dX2_becomeLike_70 : decode cX2_becomeLike 70 = .ok (.bipush 33, 2) := by decide +kernel
theorem dX2_becomeLike_72 : decode cX2_becomeLike 72 = .ok (.invokestatic 48, 3) := by decide +kernel
theorem dX2_becomeLike_75 : decode cX2_becomeLike 75 = .ok (.aload_n 0, 1) := by decide +kernel
theorem dX2_becomeLike_76 : decode cX2_becomeLike 76 = .ok (.aload_n 1, 1) := by decide +kernel
theorem dX2_becomeLike_77 : decode cX2_becomeLike 77 = .ok (.getfield 40, 3) := by decide +kernel
theorem dX2_becomeLike_80 : decode cX2_becomeLike 80 = .ok (.putfield 40, 3) := by decide +kernel
theorem dX2_becomeLike_83 : decode cX2_becomeLike 83 = .ok (.return_, 1) := by decide +kernel
set_option maxRecDepth 20000 in
theorem ggX2_knows_X3_at : GoodIn wsX2_knows wsX3_at := goodIn_r _ [4] (by decide +kernel) (by decide +kernel)
set_option maxRecDepth 20000 in
theorem gX2_knows_X3_at_n54 : GoodIn wsX2_knows (wsX3_at) := ggX2_knows_X3_at
theorem dX2_knows_0 : decode cX2_knows 0 = .ok (.aload_n 0, 1) := by decide +kernel
theorem dX2_knows_1 : decode cX2_knows 1 = .ok (.getfield 24, 3) := by decide +kernel
theorem dX2_knows_4 : decode cX2_knows 4 = .ok (.iload_n 1, 1) := by decide +kernel
theorem dX2_knows_5 : decode cX2_knows 5 = .ok (.invokestatic 54, 3) := by decide +kernel
theorem dX2_knows_8 : decode cX2_knows 8 = .ok (.iconst (-1), 1) := by decide +kernel
theorem dX2_knows_9 : decode cX2_knows 9 = .ok (.if_icmp .eq 7, 3) := by decide +kernel
theorem dX2_knows_12 : decode cX2_knows 12 = .ok (.iconst 1, 1) := by decide +kernel
theorem dX2_knows_13 : decode cX2_knows 13 = .ok (.goto 4, 3) := by decide +kernel
theorem dX2_knows_16 : decode cX2_knows 16 = .ok (.iconst 0, 1) := by decide +kernel
theorem dX2_knows_17 : decode cX2_knows 17 = .ok (.ireturn, 1) := by decide +kernel
theorem dX2_knownLasts_0 : decode cX2_knownLasts 0 = .ok (.aload_n 0, 1) := by decide +kernel
theorem dX2_knownLasts_1 : decode cX2_knownLasts 1 = .ok (.getfield 40, 3) := by decide +kernel
theorem dX2_knownLasts_4 : decode cX2_knownLasts 4 = .ok (.iconst 1, 1) := by decide +kernel
theorem dX2_knownLasts_5 : decode cX2_knownLasts 5 = .ok (.isub, 1) := by decide +kernel
theorem dX2_knownLasts_6 : decode cX2_knownLasts 6 = .ok (.iconst 2, 1) := by decide +kernel
theorem dX2_knownLasts_7 : decode cX2_knownLasts 7 = .ok (.idiv, 1) := by decide +kernel
theorem dX2_knownLasts_8 : decode cX2_knownLasts 8 = .ok (.ireturn, 1) := by decide +kernel
set_option maxRecDepth 20000 in
theorem ggX2_weightOfRoot_X3_at : GoodIn wsX2_weightOfRoot wsX3_at := goodIn_r _ [4] (by decide +kernel) (by decide +kernel)
set_option maxRecDepth 20000 in
theorem gX2_weightOfRoot_X3_at_n54 : GoodIn wsX2_weightOfRoot (wsX3_at) := ggX2_weightOfRoot_X3_at
theorem dX2_weightOfRoot_0 : decode cX2_weightOfRoot 0 = .ok (.aload_n 0, 1) := by decide +kernel
theorem dX2_weightOfRoot_1 : decode cX2_weightOfRoot 1 = .ok (.getfield 9, 3) := by decide +kernel
theorem dX2_weightOfRoot_4 : decode cX2_weightOfRoot 4 = .ok (.iconst 0, 1) := by decide +kernel
theorem dX2_weightOfRoot_5 : decode cX2_weightOfRoot 5 = .ok (.invokestatic 54, 3) := by decide +kernel
theorem dX2_weightOfRoot_8 : decode cX2_weightOfRoot 8 = .ok (.ireturn, 1) := by decide +kernel
set_option maxRecDepth 20000 in
theorem ggX2_factOfNode_X3_at : GoodIn wsX2_factOfNode wsX3_at := goodIn_r _ [7] (by decide +kernel) (by decide +kernel)
set_option maxRecDepth 20000 in
theorem gX2_factOfNode_X3_at_n54 : GoodIn wsX2_factOfNode (wsX3_at) := ggX2_factOfNode_X3_at
theorem dX2_factOfNode_0 : decode cX2_factOfNode 0 = .ok (.iload_n 2, 1) := by decide +kernel
theorem dX2_factOfNode_1 : decode cX2_factOfNode 1 = .ok (.tableswitch 54 0 2 #[27, 36, 45], 27) := by decide +kernel
theorem dX2_factOfNode_28 : decode cX2_factOfNode 28 = .ok (.aload_n 0, 1) := by decide +kernel
theorem dX2_factOfNode_29 : decode cX2_factOfNode 29 = .ok (.getfield 9, 3) := by decide +kernel
theorem dX2_factOfNode_32 : decode cX2_factOfNode 32 = .ok (.iload_n 1, 1) := by decide +kernel
theorem dX2_factOfNode_33 : decode cX2_factOfNode 33 = .ok (.invokestatic 54, 3) := by decide +kernel
theorem dX2_factOfNode_36 : decode cX2_factOfNode 36 = .ok (.ireturn, 1) := by decide +kernel
theorem dX2_factOfNode_37 : decode cX2_factOfNode 37 = .ok (.aload_n 0, 1) := by decide +kernel
theorem dX2_factOfNode_38 : decode cX2_factOfNode 38 = .ok (.getfield 15, 3) := by decide +kernel
theorem dX2_factOfNode_41 : decode cX2_factOfNode 41 = .ok (.iload_n 1, 1) := by decide +kernel
theorem dX2_factOfNode_42 : decode cX2_factOfNode 42 = .ok (.invokestatic 54, 3) := by decide +kernel
theorem dX2_factOfNode_45 : decode cX2_factOfNode 45 = .ok (.ireturn, 1) := by decide +kernel
theorem dX2_factOfNode_46 : decode cX2_factOfNode 46 = .ok (.aload_n 0, 1) := by decide +kernel
theorem dX2_factOfNode_47 : decode cX2_factOfNode 47 = .ok (.getfield 21, 3) := by decide +kernel
theorem dX2_factOfNode_50 : decode cX2_factOfNode 50 = .ok (.iload_n 1, 1) := by decide +kernel
theorem dX2_factOfNode_51 : decode cX2_factOfNode 51 = .ok (.invokestatic 54, 3) := by decide +kernel
theorem dX2_factOfNode_54 : decode cX2_factOfNode 54 = .ok (.ireturn, 1) := by decide +kernel
theorem dX2_factOfNode_55 : decode cX2_factOfNode 55 = .ok (.aload_n 0, 1) := by decide +kernel
theorem dX2_factOfNode_56 : decode cX2_factOfNode 56 = .ok (.getfield 18, 3) := by decide +kernel
theorem dX2_factOfNode_59 : decode cX2_factOfNode 59 = .ok (.iload_n 1, 1) := by decide +kernel
theorem dX2_factOfNode_60 : decode cX2_factOfNode 60 = .ok (.invokestatic 54, 3) := by decide +kernel
theorem dX2_factOfNode_63 : decode cX2_factOfNode 63 = .ok (.ireturn, 1) := by decide +kernel
set_option maxRecDepth 20000 in
theorem ggX2_factOfLeaf_X3_at : GoodIn wsX2_factOfLeaf wsX3_at := goodIn_r _ [5] (by decide +kernel) (by decide +kernel)
set_option maxRecDepth 20000 in
theorem gX2_factOfLeaf_X3_at_n54 : GoodIn wsX2_factOfLeaf (wsX3_at) := ggX2_factOfLeaf_X3_at
set_option maxRecDepth 20000 in
theorem ggX2_factOfLeaf_X2_lengthOf : GoodIn wsX2_factOfLeaf wsX2_lengthOf := goodIn_r _ [10, 11, 1, 3, 4, 5, 21, 22, 23, 24, 25, 26, 27, 28, 29] (by decide +kernel) (by decide +kernel)
set_option maxRecDepth 20000 in
theorem gX2_factOfLeaf_X2_lengthOf : GoodIn wsX2_factOfLeaf (wsV RX2 58 RX2 yX2_lengthOf wsX2_lengthOf) := goodIn_app (goodIn_of _ (by decide +kernel)) ggX2_factOfLeaf_X2_lengthOf
set_option maxRecDepth 20000 in
theorem ggX2_factOfLeaf_X2_codeOf : GoodIn wsX2_factOfLeaf wsX2_codeOf := goodIn_r _ [15, 1, 11, 16, 3, 4, 5, 21, 22, 23, 24, 25, 26, 27, 28, 29] (by decide +kernel) (by decide +kernel)
set_option maxRecDepth 20000 in
theorem gX2_factOfLeaf_X2_codeOf : GoodIn wsX2_factOfLeaf (wsV RX2 62 RX2 yX2_codeOf wsX2_codeOf) := goodIn_app (goodIn_of _ (by decide +kernel)) ggX2_factOfLeaf_X2_codeOf
set_option maxRecDepth 20000 in
theorem ggX2_factOfLeaf_X2_codeByLengths : GoodIn wsX2_factOfLeaf wsX2_codeByLengths := goodIn_r _ [20, 1, 6, 7, 8, 9, 10, 11, 3, 4, 5, 21, 22, 23, 24, 25, 26, 27, 28, 29] (by decide +kernel) (by decide +kernel)
set_option maxRecDepth 20000 in
theorem gX2_factOfLeaf_X2_codeByLengths : GoodIn wsX2_factOfLeaf (wsV RX2 65 RX2 yX2_codeByLengths wsX2_codeByLengths) := goodIn_app (goodIn_of _ (by decide +kernel)) ggX2_factOfLeaf_X2_codeByLengths
theorem dX2_factOfLeaf_0 : decode cX2_factOfLeaf 0 = .ok (.aload_n 0, 1) := by decide +kernel
theorem dX2_factOfLeaf_1 : decode cX2_factOfLeaf 1 = .ok (.getfield 24, 3) := by decide +kernel
theorem dX2_factOfLeaf_4 : decode cX2_factOfLeaf 4 = .ok (.iload_n 1, 1) := by decide +kernel
theorem dX2_factOfLeaf_5 : decode cX2_factOfLeaf 5 = .ok (.invokestatic 54, 3) := by decide +kernel
theorem dX2_factOfLeaf_8 : decode cX2_factOfLeaf 8 = .ok (.istore_n 3, 1) := by decide +kernel
theorem dX2_factOfLeaf_9 : decode cX2_factOfLeaf 9 = .ok (.iload_n 3, 1) := by decide +kernel
theorem dX2_factOfLeaf_10 : decode cX2_factOfLeaf 10 = .ok (.iconst (-1), 1) := by decide +kernel
theorem dX2_factOfLeaf_11 : decode cX2_factOfLeaf 11 = .ok (.if_icmp .ne 5, 3) := by decide +kernel
theorem dX2_factOfLeaf_14 : decode cX2_factOfLeaf 14 = .ok (.iconst (-1), 1) := by decide +kernel
theorem dX2_factOfLeaf_15 : decode cX2_factOfLeaf 15 = .ok (.ireturn, 1) := by decide +kernel
theorem dX2_factOfLeaf_16 : decode cX2_factOfLeaf 16 = .ok (.iload_n 2, 1) := by decide +kernel
theorem dX2_factOfLeaf_17 : decode cX2_factOfLeaf 17 = .ok (.tableswitch 58 0 3 #[31, 40, 46, 52], 31) := by decide +kernel
theorem dX2_factOfLeaf_48 : decode cX2_factOfLeaf 48 = .ok (.aload_n 0, 1) := by decide +kernel
theorem dX2_factOfLeaf_49 : decode cX2_factOfLeaf 49 = .ok (.getfield 9, 3) := by decide +kernel
theorem dX2_factOfLeaf_52 : decode cX2_factOfLeaf 52 = .ok (.iload_n 3, 1) := by decide +kernel
theorem dX2_factOfLeaf_53 : decode cX2_factOfLeaf 53 = .ok (.invokestatic 54, 3) := by decide +kernel
theorem dX2_factOfLeaf_56 : decode cX2_factOfLeaf 56 = .ok (.ireturn, 1) := by decide +kernel
theorem dX2_factOfLeaf_57 : decode cX2_factOfLeaf 57 = .ok (.aload_n 0, 1) := by decide +kernel
theorem dX2_factOfLeaf_58 : decode cX2_factOfLeaf 58 = .ok (.iload_n 1, 1) := by decide +kernel
theorem dX2_factOfLeaf_59 : decode cX2_factOfLeaf 59 = .ok (.invokevirtual 58, 3) := by decide +kernel
theorem dX2_factOfLeaf_62 : decode cX2_factOfLeaf 62 = .ok (.ireturn, 1) := by decide +kernel
theorem dX2_factOfLeaf_63 : decode cX2_factOfLeaf 63 = .ok (.aload_n 0, 1) := by decide +kernel
theorem dX2_factOfLeaf_64 : decode cX2_factOfLeaf 64 = .ok (.iload_n 1, 1) := by decide +kernel
theorem dX2_factOfLeaf_65 : decode cX2_factOfLeaf 65 = .ok (.invokevirtual 62, 3) := by decide +kernel
theorem dX2_factOfLeaf_68 : decode cX2_factOfLeaf 68 = .ok (.ireturn, 1) := by decide +kernel
theorem dX2_factOfLeaf_69 : decode cX2_factOfLeaf 69 = .ok (.aload_n 0, 1) := by decide +kernel
theorem dX2_factOfLeaf_70 : decode cX2_factOfLeaf 70 = .ok (.iload_n 1, 1) := by decide +kernel
theorem dX2_factOfLeaf_71 : decode cX2_factOfLeaf 71 = .ok (.invokevirtual 65, 3) := by decide +kernel
theorem dX2_factOfLeaf_74 : decode cX2_factOfLeaf 74 = .ok (.ireturn, 1) := by decide +kernel
theorem dX2_factOfLeaf_75 : decode cX2_factOfLeaf 75 = .ok (.iload_n 3, 1) := by decide +kernel
theorem dX2_factOfLeaf_76 : decode cX2_factOfLeaf 76 = .ok (.ireturn, 1) := by decide +kernel
set_option maxRecDepth 20000 in
theorem ggX2_lengthOf_X3_at : GoodIn wsX2_lengthOf wsX3_at := goodIn_r _ [5] (by decide +kernel) (by decide +kernel)
set_option maxRecDepth 20000 in
theorem gX2_lengthOf_X3_at_n54 : GoodIn wsX2_lengthOf (wsX3_at) := ggX2_lengthOf_X3_at
theorem dX2_lengthOf_0 : decode cX2_lengthOf 0 = .ok (.iconst 0, 1) := by decide +kernel
theorem dX2_lengthOf_1 : decode cX2_lengthOf 1 = .ok (.istore_n 2, 1) := by decide +kernel
theorem dX2_lengthOf_2 : decode cX2_lengthOf 2 = .ok (.aload_n 0, 1) := by decide +kernel
theorem dX2_lengthOf_3 : decode cX2_lengthOf 3 = .ok (.getfield 21, 3) := by decide +kernel
theorem dX2_lengthOf_6 : decode cX2_lengthOf 6 = .ok (.aload_n 0, 1) := by decide +kernel
theorem dX2_lengthOf_7 : decode cX2_lengthOf 7 = .ok (.getfield 24, 3) := by decide +kernel
theorem dX2_lengthOf_10 : decode cX2_lengthOf 10 = .ok (.iload_n 1, 1) := by decide +kernel
theorem dX2_lengthOf_11 : decode cX2_lengthOf 11 = .ok (.invokestatic 54, 3) := by decide +kernel
theorem dX2_lengthOf_14 : decode cX2_lengthOf 14 = .ok (.invokestatic 54, 3) := by decide +kernel
theorem dX2_lengthOf_17 : decode cX2_lengthOf 17 = .ok (.istore_n 3, 1) := by decide +kernel
theorem dX2_lengthOf_18 : decode cX2_lengthOf 18 = .ok (.iload_n 3, 1) := by decide +kernel
theorem dX2_lengthOf_19 : decode cX2_lengthOf 19 = .ok (.iconst (-1), 1) := by decide +kernel
theorem dX2_lengthOf_20 : decode cX2_lengthOf 20 = .ok (.if_icmp .eq 24, 3) := by decide +kernel
theorem dX2_lengthOf_23 : decode cX2_lengthOf 23 = .ok (.iload_n 2, 1) := by decide +kernel
theorem dX2_lengthOf_24 : decode cX2_lengthOf 24 = .ok (.bipush 65, 2) := by decide +kernel
theorem dX2_lengthOf_26 : decode cX2_lengthOf 26 = .ok (.if_icmp .ge 18, 3) := by decide +kernel
theorem dX2_lengthOf_29 : decode cX2_lengthOf 29 = .ok (.iinc 2 1, 3) := by decide +kernel
theorem dX2_lengthOf_32 : decode cX2_lengthOf 32 = .ok (.aload_n 0, 1) := by decide +kernel
theorem dX2_lengthOf_33 : decode cX2_lengthOf 33 = .ok (.getfield 21, 3) := by decide +kernel
theorem dX2_lengthOf_36 : decode cX2_lengthOf 36 = .ok (.iload_n 3, 1) := by decide +kernel
theorem dX2_lengthOf_37 : decode cX2_lengthOf 37 = .ok (.invokestatic 54, 3) := by decide +kernel
theorem dX2_lengthOf_40 : decode cX2_lengthOf 40 = .ok (.istore_n 3, 1) := by decide +kernel
theorem dX2_lengthOf_41 : decode cX2_lengthOf 41 = .ok (.goto (-23), 3) := by decide +kernel
theorem dX2_lengthOf_44 : decode cX2_lengthOf 44 = .ok (.iload_n 2, 1) := by decide +kernel
theorem dX2_lengthOf_45 : decode cX2_lengthOf 45 = .ok (.ireturn, 1) := by decide +kernel
set_option maxRecDepth 20000 in
theorem ggX2_codeOf_X3_at : GoodIn wsX2_codeOf wsX3_at := goodIn_r _ [6] (by decide +kernel) (by decide +kernel)
set_option maxRecDepth 20000 in
theorem gX2_codeOf_X3_at_n54 : GoodIn wsX2_codeOf (wsX3_at) := ggX2_codeOf_X3_at
theorem dX2_codeOf_0 : decode cX2_codeOf 0 = .ok (.iconst 0, 1) := by decide +kernel
theorem dX2_codeOf_1 : decode cX2_codeOf 1 = .ok (.istore_n 2, 1) := by decide +kernel
theorem dX2_codeOf_2 : decode cX2_codeOf 2 = .ok (.aload_n 0, 1) := by decide +kernel
theorem dX2_codeOf_3 : decode cX2_codeOf 3 = .ok (.getfield 24, 3) := by decide +kernel
theorem dX2_codeOf_6 : decode cX2_codeOf 6 = .ok (.iload_n 1, 1) := by decide +kernel
theorem dX2_codeOf_7 : decode cX2_codeOf 7 = .ok (.invokestatic 54, 3) := by decide +kernel
theorem dX2_codeOf_10 : decode cX2_codeOf 10 = .ok (.istore_n 3, 1) := by decide +kernel
theorem dX2_codeOf_11 : decode cX2_codeOf 11 = .ok (.aload_n 0, 1) := by decide +kernel
theorem dX2_codeOf_12 : decode cX2_codeOf 12 = .ok (.getfield 21, 3) := by decide +kernel
theorem dX2_codeOf_15 : decode cX2_codeOf 15 = .ok (.iload_n 3, 1) := by decide +kernel
theorem dX2_codeOf_16 : decode cX2_codeOf 16 = .ok (.invokestatic 54, 3) := by decide +kernel
theorem dX2_codeOf_19 : decode cX2_codeOf 19 = .ok (.istore 4, 2) := by decide +kernel
theorem dX2_codeOf_21 : decode cX2_codeOf 21 = .ok (.iconst 0, 1) := by decide +kernel
theorem dX2_codeOf_22 : decode cX2_codeOf 22 = .ok (.istore 5, 2) := by decide +kernel
theorem dX2_codeOf_24 : decode cX2_codeOf 24 = .ok (.iload 4, 2) := by decide +kernel
theorem dX2_codeOf_26 : decode cX2_codeOf 26 = .ok (.iconst (-1), 1) := by decide +kernel
theorem dX2_codeOf_27 : decode cX2_codeOf 27 = .ok (.if_icmp .eq 49, 3) := by decide +kernel
theorem dX2_codeOf_30 : decode cX2_codeOf 30 = .ok (.iload 5, 2) := by decide +kernel
theorem dX2_codeOf_32 : decode cX2_codeOf 32 = .ok (.bipush 65, 2) := by decide +kernel
theorem dX2_codeOf_34 : decode cX2_codeOf 34 = .ok (.if_icmp .ge 42, 3) := by decide +kernel
theorem dX2_codeOf_37 : decode cX2_codeOf 37 = .ok (.iload_n 3, 1) := by decide +kernel
theorem dX2_codeOf_38 : decode cX2_codeOf 38 = .ok (.aload_n 0, 1) := by decide +kernel
theorem dX2_codeOf_39 : decode cX2_codeOf 39 = .ok (.getfield 18, 3) := by decide +kernel
theorem dX2_codeOf_42 : decode cX2_codeOf 42 = .ok (.iload 4, 2) := by decide +kernel
theorem dX2_codeOf_44 : decode cX2_codeOf 44 = .ok (.invokestatic 54, 3) := by decide +kernel
theorem dX2_codeOf_47 : decode cX2_codeOf 47 = .ok (.if_icmp .eq 10, 3) := by decide +kernel
theorem dX2_codeOf_50 : decode cX2_codeOf 50 = .ok (.iload_n 2, 1) := by decide +kernel
theorem dX2_codeOf_51 : decode cX2_codeOf 51 = .ok (.iconst 1, 1) := by decide +kernel
theorem dX2_codeOf_52 : decode cX2_codeOf 52 = .ok (.iload 5, 2) := by decide +kernel
theorem dX2_codeOf_54 : decode cX2_codeOf 54 = .ok (.ishl, 1) := by decide +kernel
theorem dX2_codeOf_55 : decode cX2_codeOf 55 = .ok (.ior, 1) := by decide +kernel
theorem dX2_codeOf_56 : decode cX2_codeOf 56 = .ok (.istore_n 2, 1) := by decide +kernel
theorem dX2_codeOf_57 : decode cX2_codeOf 57 = .ok (.iload 4, 2) := by decide +kernel
theorem dX2_codeOf_59 : decode cX2_codeOf 59 = .ok (.istore_n 3, 1) := by decide +kernel
theorem dX2_codeOf_60 : decode cX2_codeOf 60 = .ok (.aload_n 0, 1) := by decide +kernel
theorem dX2_codeOf_61 : decode cX2_codeOf 61 = .ok (.getfield 21, 3) := by decide +kernel
theorem dX2_codeOf_64 : decode cX2_codeOf 64 = .ok (.iload_n 3, 1) := by decide +kernel
theorem dX2_codeOf_65 : decode cX2_codeOf 65 = .ok (.invokestatic 54, 3) := by decide +kernel
theorem dX2_codeOf_68 : decode cX2_codeOf 68 = .ok (.istore 4, 2) := by decide +kernel
theorem dX2_codeOf_70 : decode cX2_codeOf 70 = .ok (.iinc 5 1, 3) := by decide +kernel
theorem dX2_codeOf_73 : decode cX2_codeOf 73 = .ok (.goto (-49), 3) := by decide +kernel
theorem dX2_codeOf_76 : decode cX2_codeOf 76 = .ok (.iload_n 2, 1) := by decide +kernel
theorem dX2_codeOf_77 : decode cX2_codeOf 77 = .ok (.ireturn, 1) := by decide +kernel
set_option maxRecDepth 20000 in
theorem ggX2_codeByLengths_X2_lengthOf : GoodIn wsX2_codeByLengths wsX2_lengthOf := goodIn_r _ [6, 7, 1, 8, 9, 10, 11, 12, 13, 14, 15, 16, 17, 18, 19] (by decide +kernel) (by decide +kernel)
set_option maxRecDepth 20000 in
theorem gX2_codeByLengths_X2_lengthOf : GoodIn wsX2_codeByLengths (wsV RX2 58 RX2 yX2_lengthOf wsX2_lengthOf) := goodIn_app (goodIn_of _ (by decide +kernel)) ggX2_codeByLengths_X2_lengthOf
set_option maxRecDepth 20000 in
theorem ggX2_codeByLengths_X3_at : GoodIn wsX2_codeByLengths wsX3_at := goodIn_r _ [10] (by decide +kernel) (by decide +kernel)
set_option maxRecDepth 20000 in
theorem gX2_codeByLengths_X3_at_n54 : GoodIn wsX2_codeByLengths (wsX3_at) := ggX2_codeByLengths_X3_at
theorem dX2_codeByLengths_0 : decode cX2_codeByLengths 0 = .ok (.iconst 0, 1) := by decide +kernel
theorem dX2_codeByLengths_1 : decode cX2_codeByLengths 1 = .ok (.istore_n 2, 1) := by decide +kernel
theorem dX2_codeByLengths_2 : decode cX2_codeByLengths 2 = .ok (.aload_n 0, 1) := by decide +kernel
theorem dX2_codeByLengths_3 : decode cX2_codeByLengths 3 = .ok (.iload_n 1, 1) := by decide +kernel
theorem dX2_codeByLengths_4 : decode cX2_codeByLengths 4 = .ok (.invokevirtual 58, 3) := by decide +kernel
theorem dX2_codeByLengths_7 : decode cX2_codeByLengths 7 = .ok (.istore_n 3, 1) := by decide +kernel
theorem dX2_codeByLengths_8 : decode cX2_codeByLengths 8 = .ok (.iconst 0, 1) := by decide +kernel
theorem dX2_codeByLengths_9 : decode cX2_codeByLengths 9 = .ok (.istore 4, 2) := by decide +kernel
theorem dX2_codeByLengths_11 : decode cX2_codeByLengths 11 = .ok (.iload 4, 2) := by decide +kernel
theorem dX2_codeByLengths_13 : decode cX2_codeByLengths 13 = .ok (.bipush 33, 2) := by decide +kernel
theorem dX2_codeByLengths_15 : decode cX2_codeByLengths 15 = .ok (.if_icmp .ge 55, 3) := by decide +kernel
theorem dX2_codeByLengths_18 : decode cX2_codeByLengths 18 = .ok (.aload_n 0, 1) := by decide +kernel
theorem dX2_codeByLengths_19 : decode cX2_codeByLengths 19 = .ok (.getfield 24, 3) := by decide +kernel
theorem dX2_codeByLengths_22 : decode cX2_codeByLengths 22 = .ok (.iload 4, 2) := by decide +kernel
theorem dX2_codeByLengths_24 : decode cX2_codeByLengths 24 = .ok (.invokestatic 54, 3) := by decide +kernel
theorem dX2_codeByLengths_27 : decode cX2_codeByLengths 27 = .ok (.iconst (-1), 1) := by decide +kernel
theorem dX2_codeByLengths_28 : decode cX2_codeByLengths 28 = .ok (.if_icmp .eq 36, 3) := by decide +kernel
theorem dX2_codeByLengths_31 : decode cX2_codeByLengths 31 = .ok (.iload_n 3, 1) := by decide +kernel
theorem dX2_codeByLengths_32 : decode cX2_codeByLengths 32 = .ok (.aload_n 0, 1) := by decide +kernel
theorem dX2_codeByLengths_33 : decode cX2_codeByLengths 33 = .ok (.iload 4, 2) := by decide +kernel
theorem dX2_codeByLengths_35 : decode cX2_codeByLengths 35 = .ok (.invokevirtual 58, 3) := by decide +kernel
theorem dX2_codeByLengths_38 : decode cX2_codeByLengths 38 = .ok (.isub, 1) := by decide +kernel
theorem dX2_codeByLengths_39 : decode cX2_codeByLengths 39 = .ok (.istore 5, 2) := by decide +kernel
theorem dX2_codeByLengths_41 : decode cX2_codeByLengths 41 = .ok (.iload 5, 2) := by decide +kernel
theorem dX2_codeByLengths_43 : decode cX2_codeByLengths 43 = .ok (.ifCond .gt 14, 3) := by decide +kernel
theorem dX2_codeByLengths_46 : decode cX2_codeByLengths 46 = .ok (.iload 5, 2) := by decide +kernel
theorem dX2_codeByLengths_48 : decode cX2_codeByLengths 48 = .ok (.ifCond .ne 16, 3) := by decide +kernel
theorem dX2_codeByLengths_51 : decode cX2_codeByLengths 51 = .ok (.iload 4, 2) := by decide +kernel
theorem dX2_codeByLengths_53 : decode cX2_codeByLengths 53 = .ok (.iload_n 1, 1) := by decide +kernel
theorem dX2_codeByLengths_54 : decode cX2_codeByLengths 54 = .ok (.if_icmp .ge 10, 3) := by decide +kernel
theorem dX2_codeByLengths_57 : decode cX2_codeByLengths 57 = .ok (.iload_n 2, 1) := by decide +kernel
theorem dX2_codeByLengths_58 : decode cX2_codeByLengths 58 = .ok (.iconst 1, 1) := by decide +kernel
theorem dX2_codeByLengths_59 : decode cX2_codeByLengths 59 = .ok (.iload 5, 2) := by decide +kernel
theorem dX2_codeByLengths_61 : decode cX2_codeByLengths 61 = .ok (.ishl, 1) := by decide +kernel
theorem dX2_codeByLengths_62 : decode cX2_codeByLengths 62 = .ok (.iadd, 1) := by decide +kernel
theorem dX2_codeByLengths_63 : decode cX2_codeByLengths 63 = .ok (.istore_n 2, 1) := by decide +kernel
theorem dX2_codeByLengths_64 : decode cX2_codeByLengths 64 = .ok (.iinc 4 1, 3) := by decide +kernel
theorem dX2_codeByLengths_67 : decode cX2_codeByLengths 67 = .ok (.goto (-56), 3) := by decide +kernel
theorem dX2_codeByLengths_70 : decode cX2_codeByLengths 70 = .ok (.iload_n 2, 1) := by decide +kernel
theorem dX2_codeByLengths_71 : decode cX2_codeByLengths 71 = .ok (.ireturn, 1) := by decide +kernel
set_option maxRecDepth 20000 in
theorem ggX2_firstWritten_X3_at : GoodIn wsX2_firstWritten wsX3_at := goodIn_r _ [5] (by decide +kernel) (by decide +kernel)
set_option maxRecDepth 20000 in
theorem gX2_firstWritten_X3_at_n54 : GoodIn wsX2_firstWritten (wsX3_at) := ggX2_firstWritten_X3_at
theorem dX2_firstWritten_0 : decode cX2_firstWritten 0 = .ok (.iconst 0, 1) := by decide +kernel
theorem dX2_firstWritten_1 : decode cX2_firstWritten 1 = .ok (.istore_n 3, 1) := by decide +kernel
theorem dX2_firstWritten_2 : decode cX2_firstWritten 2 = .ok (.iload_n 2, 1) := by decide +kernel
theorem dX2_firstWritten_3 : decode cX2_firstWritten 3 = .ok (.istore 4, 2) := by decide +kernel
theorem dX2_firstWritten_5 : decode cX2_firstWritten 5 = .ok (.iload 4, 2) := by decide +kernel
theorem dX2_firstWritten_7 : decode cX2_firstWritten 7 = .ok (.ifCond .le 37, 3) := by decide +kernel
theorem dX2_firstWritten_10 : decode cX2_firstWritten 10 = .ok (.aload_n 0, 1) := by decide +kernel
theorem dX2_firstWritten_11 : decode cX2_firstWritten 11 = .ok (.getfield 18, 3) := by decide +kernel
theorem dX2_firstWritten_14 : decode cX2_firstWritten 14 = .ok (.iload_n 3, 1) := by decide +kernel
theorem dX2_firstWritten_15 : decode cX2_firstWritten 15 = .ok (.invokestatic 54, 3) := by decide +kernel
theorem dX2_firstWritten_18 : decode cX2_firstWritten 18 = .ok (.iconst (-1), 1) := by decide +kernel
theorem dX2_firstWritten_19 : decode cX2_firstWritten 19 = .ok (.if_icmp .eq 25, 3) := by decide +kernel
theorem dX2_firstWritten_22 : decode cX2_firstWritten 22 = .ok (.iinc 4 (-1), 3) := by decide +kernel
theorem dX2_firstWritten_25 : decode cX2_firstWritten 25 = .ok (.aload_n 0, 1) := by decide +kernel
theorem dX2_firstWritten_26 : decode cX2_firstWritten 26 = .ok (.getfield 18, 3) := by decide +kernel
theorem dX2_firstWritten_29 : decode cX2_firstWritten 29 = .ok (.iload_n 3, 1) := by decide +kernel
theorem dX2_firstWritten_30 : decode cX2_firstWritten 30 = .ok (.invokestatic 54, 3) := by decide +kernel
theorem dX2_firstWritten_33 : decode cX2_firstWritten 33 = .ok (.iload_n 1, 1) := by decide +kernel
theorem dX2_firstWritten_34 : decode cX2_firstWritten 34 = .ok (.iload 4, 2) := by decide +kernel
theorem dX2_firstWritten_36 : decode cX2_firstWritten 36 = .ok (.ishr, 1) := by decide +kernel
theorem dX2_firstWritten_37 : decode cX2_firstWritten 37 = .ok (.iconst 1, 1) := by decide +kernel
theorem dX2_firstWritten_38 : decode cX2_firstWritten 38 = .ok (.iand, 1) := by decide +kernel
theorem dX2_firstWritten_39 : decode cX2_firstWritten 39 = .ok (.iadd, 1) := by decide +kernel
theorem dX2_firstWritten_40 : decode cX2_firstWritten 40 = .ok (.istore_n 3, 1) := by decide +kernel
theorem dX2_firstWritten_41 : decode cX2_firstWritten 41 = .ok (.goto (-36), 3) := by decide +kernel
theorem dX2_firstWritten_44 : decode cX2_firstWritten 44 = .ok (.aload_n 0, 1) := by decide +kernel
theorem dX2_firstWritten_45 : decode cX2_firstWritten 45 = .ok (.getfield 15, 3) := by decide +kernel
theorem dX2_firstWritten_48 : decode cX2_firstWritten 48 = .ok (.iload_n 3, 1) := by decide +kernel
theorem dX2_firstWritten_49 : decode cX2_firstWritten 49 = .ok (.invokestatic 54, 3) := by decide +kernel
theorem dX2_firstWritten_52 : decode cX2_firstWritten 52 = .ok (.istore 5, 2) := by decide +kernel
theorem dX2_firstWritten_54 : decode cX2_firstWritten 54 = .ok (.iload 5, 2) := by decide +kernel
theorem dX2_firstWritten_56 : decode cX2_firstWritten 56 = .ok (.bipush 32, 2) := by decide +kernel
theorem dX2_firstWritten_58 : decode cX2_firstWritten 58 = .ok (.if_icmp .eq 6, 3) := by decide +kernel
theorem dX2_firstWritten_61 : decode cX2_firstWritten 61 = .ok (.iload 5, 2) := by decide +kernel
theorem dX2_firstWritten_63 : decode cX2_firstWritten 63 = .ok (.ireturn, 1) := by decide +kernel
theorem dX2_firstWritten_64 : decode cX2_firstWritten 64 = .ok (.iload 4, 2) := by decide +kernel
theorem dX2_firstWritten_66 : decode cX2_firstWritten 66 = .ok (.iconst 5, 1) := by decide +kernel
theorem dX2_firstWritten_67 : decode cX2_firstWritten 67 = .ok (.if_icmp .ge 5, 3) := by decide +kernel
theorem dX2_firstWritten_70 : decode cX2_firstWritten 70 = .ok (.iconst (-1), 1) := by decide +kernel
theorem dX2_firstWritten_71 : decode cX2_firstWritten 71 = .ok (.ireturn, 1) := by decide +kernel
theorem dX2_firstWritten_72 : decode cX2_firstWritten 72 = .ok (.bipush 100, 2) := by decide +kernel
theorem dX2_firstWritten_74 : decode cX2_firstWritten 74 = .ok (.iload_n 1, 1) := by decide +kernel
theorem dX2_firstWritten_75 : decode cX2_firstWritten 75 = .ok (.iload 4, 2) := by decide +kernel
theorem dX2_firstWritten_77 : decode cX2_firstWritten 77 = .ok (.iconst 5, 1) := by decide +kernel
theorem dX2_firstWritten_78 : decode cX2_firstWritten 78 = .ok (.isub, 1) := by decide +kernel
theorem dX2_firstWritten_79 : decode cX2_firstWritten 79 = .ok (.ishr, 1) := by decide +kernel
theorem dX2_firstWritten_80 : decode cX2_firstWritten 80 = .ok (.bipush 31, 2) := by decide +kernel
theorem dX2_firstWritten_82 : decode cX2_firstWritten 82 = .ok (.iand, 1) := by decide +kernel
theorem dX2_firstWritten_83 : decode cX2_firstWritten 83 = .ok (.iadd, 1) := by decide +kernel
theorem dX2_firstWritten_84 : decode cX2_firstWritten 84 = .ok (.ireturn, 1) := by decide +kernel
set_option maxRecDepth 20000 in
theorem ggX2_putNode_X3_put : GoodIn wsX2_putNode wsX3_put := goodIn_r _ [8] (by decide +kernel) (by decide +kernel)
set_option maxRecDepth 20000 in
theorem gX2_putNode_X3_put_n68 : GoodIn wsX2_putNode (wsX3_put) := ggX2_putNode_X3_put
theorem dX2_putNode_0 : decode cX2_putNode 0 = .ok (.aload_n 0, 1) := by decide +kernel
theorem dX2_putNode_1 : decode cX2_putNode 1 = .ok (.getfield 9, 3) := by decide +kernel
theorem dX2_putNode_4 : decode cX2_putNode 4 = .ok (.iload_n 1, 1) := by decide +kernel
theorem dX2_putNode_5 : decode cX2_putNode 5 = .ok (.iload_n 2, 1) := by decide +kernel
theorem dX2_putNode_6 : decode cX2_putNode 6 = .ok (.invokestatic 68, 3) := by decide +kernel
theorem dX2_putNode_9 : decode cX2_putNode 9 = .ok (.aload_n 0, 1) := by decide +kernel
theorem dX2_putNode_10 : decode cX2_putNode 10 = .ok (.getfield 15, 3) := by decide +kernel
theorem dX2_putNode_13 : decode cX2_putNode 13 = .ok (.iload_n 1, 1) := by decide +kernel
theorem dX2_putNode_14 : decode cX2_putNode 14 = .ok (.iload_n 3, 1) := by decide +kernel
theorem dX2_putNode_15 : decode cX2_putNode 15 = .ok (.invokestatic 68, 3) := by decide +kernel
theorem dX2_putNode_18 : decode cX2_putNode 18 = .ok (.aload_n 0, 1) := by decide +kernel
theorem dX2_putNode_19 : decode cX2_putNode 19 = .ok (.getfield 18, 3) := by decide +kernel
theorem dX2_putNode_22 : decode cX2_putNode 22 = .ok (.iload_n 1, 1) := by decide +kernel
theorem dX2_putNode_23 : decode cX2_putNode 23 = .ok (.iload 4, 2) := by decide +kernel
theorem dX2_putNode_25 : decode cX2_putNode 25 = .ok (.invokestatic 68, 3) := by decide +kernel
theorem dX2_putNode_28 : decode cX2_putNode 28 = .ok (.iload 4, 2) := by decide +kernel
theorem dX2_putNode_30 : decode cX2_putNode 30 = .ok (.iconst (-1), 1) := by decide +kernel
theorem dX2_putNode_31 : decode cX2_putNode 31 = .ok (.if_icmp .ne 15, 3) := by decide +kernel
theorem dX2_putNode_34 : decode cX2_putNode 34 = .ok (.aload_n 0, 1) := by decide +kernel
theorem dX2_putNode_35 : decode cX2_putNode 35 = .ok (.getfield 24, 3) := by decide +kernel
theorem dX2_putNode_38 : decode cX2_putNode 38 = .ok (.iload_n 3, 1) := by decide +kernel
theorem dX2_putNode_39 : decode cX2_putNode 39 = .ok (.iload_n 1, 1) := by decide +kernel
theorem dX2_putNode_40 : decode cX2_putNode 40 = .ok (.invokestatic 68, 3) := by decide +kernel
theorem dX2_putNode_43 : decode cX2_putNode 43 = .ok (.goto 25, 3) := by decide +kernel
theorem dX2_putNode_46 : decode cX2_putNode 46 = .ok (.aload_n 0, 1) := by decide +kernel
theorem dX2_putNode_47 : decode cX2_putNode 47 = .ok (.getfield 21, 3) := by decide +kernel
theorem dX2_putNode_50 : decode cX2_putNode 50 = .ok (.iload 4, 2) := by decide +kernel
theorem dX2_putNode_52 : decode cX2_putNode 52 = .ok (.iload_n 1, 1) := by decide +kernel
theorem dX2_putNode_53 : decode cX2_putNode 53 = .ok (.invokestatic 68, 3) := by decide +kernel
theorem dX2_putNode_56 : decode cX2_putNode 56 = .ok (.aload_n 0, 1) := by decide +kernel
theorem dX2_putNode_57 : decode cX2_putNode 57 = .ok (.getfield 21, 3) := by decide +kernel
theorem dX2_putNode_60 : decode cX2_putNode 60 = .ok (.iload 4, 2) := by decide +kernel
theorem dX2_putNode_62 : decode cX2_putNode 62 = .ok (.iconst 1, 1) := by decide +kernel
theorem dX2_putNode_63 : decode cX2_putNode 63 = .ok (.iadd, 1) := by decide +kernel
theorem dX2_putNode_64 : decode cX2_putNode 64 = .ok (.iload_n 1, 1) := by decide +kernel
theorem dX2_putNode_65 : decode cX2_putNode 65 = .ok (.invokestatic 68, 3) := by decide +kernel
theorem dX2_putNode_68 : decode cX2_putNode 68 = .ok (.return_, 1) := by decide +kernel
set_option maxRecDepth 20000 in
theorem ggX2_learn_X3_at : GoodIn wsX2_learn wsX3_at := goodIn_r _ [5] (by decide +kernel) (by decide +kernel)
set_option maxRecDepth 20000 in
theorem gX2_learn_X3_at_n54 : GoodIn wsX2_learn (wsX3_at) := ggX2_learn_X3_at
set_option maxRecDepth 20000 in
theorem ggX2_learn_X2_putNode : GoodIn wsX2_learn wsX2_putNode := goodIn_r _ [10, 11, 12, 13, 1, 14, 15, 4, 16, 17, 18, 19, 20, 21, 22, 23, 24, 25] (by decide +kernel) (by decide +kernel)
set_option maxRecDepth 20000 in
theorem gX2_learn_X2_putNode : GoodIn wsX2_learn (wsV RX2 44 RX2 yX2_putNode wsX2_putNode) := goodIn_app (goodIn_of _ (by decide +kernel)) ggX2_learn_X2_putNode
theorem dX2_learn_0 : decode cX2_learn 0 = .ok (.aload_n 0, 1) := by decide +kernel
theorem dX2_learn_1 : decode cX2_learn 1 = .ok (.getfield 24, 3) := by decide +kernel
theorem dX2_learn_4 : decode cX2_learn 4 = .ok (.bipush 32, 2) := by decide +kernel
theorem dX2_learn_6 : decode cX2_learn 6 = .ok (.invokestatic 54, 3) := by decide +kernel
theorem dX2_learn_9 : decode cX2_learn 9 = .ok (.istore_n 2, 1) := by decide +kernel
theorem dX2_learn_10 : decode cX2_learn 10 = .ok (.aload_n 0, 1) := by decide +kernel
theorem dX2_learn_11 : decode cX2_learn 11 = .ok (.getfield 40, 3) := by decide +kernel
theorem dX2_learn_14 : decode cX2_learn 14 = .ok (.istore_n 3, 1) := by decide +kernel
theorem dX2_learn_15 : decode cX2_learn 15 = .ok (.aload_n 0, 1) := by decide +kernel
theorem dX2_learn_16 : decode cX2_learn 16 = .ok (.dup, 1) := by decide +kernel
theorem dX2_learn_17 : decode cX2_learn 17 = .ok (.getfield 40, 3) := by decide +kernel
theorem dX2_learn_20 : decode cX2_learn 20 = .ok (.iconst 2, 1) := by decide +kernel
theorem dX2_learn_21 : decode cX2_learn 21 = .ok (.iadd, 1) := by decide +kernel
theorem dX2_learn_22 : decode cX2_learn 22 = .ok (.putfield 40, 3) := by decide +kernel
theorem dX2_learn_25 : decode cX2_learn 25 = .ok (.aload_n 0, 1) := by decide +kernel
theorem dX2_learn_26 : decode cX2_learn 26 = .ok (.iload_n 2, 1) := by decide +kernel
theorem dX2_learn_27 : decode cX2_learn 27 = .ok (.iconst 1, 1) := by decide +kernel
theorem dX2_learn_28 : decode cX2_learn 28 = .ok (.iconst (-1), 1) := by decide +kernel
theorem dX2_learn_29 : decode cX2_learn 29 = .ok (.iload_n 3, 1) := by decide +kernel
theorem dX2_learn_30 : decode cX2_learn 30 = .ok (.invokevirtual 44, 3) := by decide +kernel
theorem dX2_learn_33 : decode cX2_learn 33 = .ok (.aload_n 0, 1) := by decide +kernel
theorem dX2_learn_34 : decode cX2_learn 34 = .ok (.iload_n 3, 1) := by decide +kernel
theorem dX2_learn_35 : decode cX2_learn 35 = .ok (.iconst 1, 1) := by decide +kernel
theorem dX2_learn_36 : decode cX2_learn 36 = .ok (.bipush 32, 2) := by decide +kernel
theorem dX2_learn_38 : decode cX2_learn 38 = .ok (.iconst (-1), 1) := by decide +kernel
theorem dX2_learn_39 : decode cX2_learn 39 = .ok (.invokevirtual 44, 3) := by decide +kernel
theorem dX2_learn_42 : decode cX2_learn 42 = .ok (.aload_n 0, 1) := by decide +kernel
theorem dX2_learn_43 : decode cX2_learn 43 = .ok (.iload_n 3, 1) := by decide +kernel
theorem dX2_learn_44 : decode cX2_learn 44 = .ok (.iconst 1, 1) := by decide +kernel
theorem dX2_learn_45 : decode cX2_learn 45 = .ok (.iadd, 1) := by decide +kernel
theorem dX2_learn_46 : decode cX2_learn 46 = .ok (.iconst 0, 1) := by decide +kernel
theorem dX2_learn_47 : decode cX2_learn 47 = .ok (.iload_n 1, 1) := by decide +kernel
theorem dX2_learn_48 : decode cX2_learn 48 = .ok (.iconst (-1), 1) := by decide +kernel
theorem dX2_learn_49 : decode cX2_learn 49 = .ok (.invokevirtual 44, 3) := by decide +kernel
theorem dX2_learn_52 : decode cX2_learn 52 = .ok (.return_, 1) := by decide +kernel
set_option maxRecDepth 20000 in
theorem ggX2_makeHeavier_X3_at : GoodIn wsX2_makeHeavier wsX3_at := goodIn_r _ [7] (by decide +kernel) (by decide +kernel)
set_option maxRecDepth 20000 in
theorem gX2_makeHeavier_X3_at_n54 : GoodIn wsX2_makeHeavier (wsX3_at) := ggX2_makeHeavier_X3_at
set_option maxRecDepth 20000 in
theorem ggX2_makeHeavier_X2_firstAsHeavyAs : GoodIn wsX2_makeHeavier wsX2_firstAsHeavyAs := goodIn_r _ [12, 3, 5, 6, 7, 25, 26, 27, 28, 29, 30, 31, 32, 33] (by decide +kernel) (by decide +kernel)
set_option maxRecDepth 20000 in
theorem gX2_makeHeavier_X2_firstAsHeavyAs : GoodIn wsX2_makeHeavier (wsV RX2 72 RX2 yX2_firstAsHeavyAs wsX2_firstAsHeavyAs) := goodIn_app (goodIn_of _ (by decide +kernel)) ggX2_makeHeavier_X2_firstAsHeavyAs
set_option maxRecDepth 20000 in
theorem ggX2_makeHeavier_X2_exchange : GoodIn wsX2_makeHeavier wsX2_exchange := goodIn_r _ [16, 3, 17, 18, 5, 6, 7, 19, 20, 21, 11, 22, 1, 4, 23, 24, 25, 26, 27, 28, 29, 30, 31, 32, 33] (by decide +kernel) (by decide +kernel)
set_option maxRecDepth 20000 in
theorem gX2_makeHeavier_X2_exchange : GoodIn wsX2_makeHeavier (wsV RX2 75 RX2 yX2_exchange wsX2_exchange) := goodIn_app (goodIn_of _ (by decide +kernel)) ggX2_makeHeavier_X2_exchange
set_option maxRecDepth 20000 in
theorem ggX2_makeHeavier_X3_put : GoodIn wsX2_makeHeavier wsX3_put := goodIn_r _ [24] (by decide +kernel) (by decide +kernel)
set_option maxRecDepth 20000 in
theorem gX2_makeHeavier_X3_put_n68 : GoodIn wsX2_makeHeavier (wsX3_put) := ggX2_makeHeavier_X3_put
theorem dX2_makeHeavier_0 : decode cX2_makeHeavier 0 = .ok (.aload_n 0, 1) := by decide +kernel
theorem dX2_makeHeavier_1 : decode cX2_makeHeavier 1 = .ok (.getfield 24, 3) := by decide +kernel
theorem dX2_makeHeavier_4 : decode cX2_makeHeavier 4 = .ok (.iload_n 1, 1) := by decide +kernel
theorem dX2_makeHeavier_5 : decode cX2_makeHeavier 5 = .ok (.invokestatic 54, 3) := by decide +kernel
theorem dX2_makeHeavier_8 : decode cX2_makeHeavier 8 = .ok (.istore_n 2, 1) := by decide +kernel
theorem dX2_makeHeavier_9 : decode cX2_makeHeavier 9 = .ok (.iconst 0, 1) := by decide +kernel
theorem dX2_makeHeavier_10 : decode cX2_makeHeavier 10 = .ok (.istore_n 3, 1) := by decide +kernel
theorem dX2_makeHeavier_11 : decode cX2_makeHeavier 11 = .ok (.iload_n 2, 1) := by decide +kernel
theorem dX2_makeHeavier_12 : decode cX2_makeHeavier 12 = .ok (.iconst (-1), 1) := by decide +kernel
theorem dX2_makeHeavier_13 : decode cX2_makeHeavier 13 = .ok (.if_icmp .eq 75, 3) := by decide +kernel
theorem dX2_makeHeavier_16 : decode cX2_makeHeavier 16 = .ok (.iload_n 3, 1) := by decide +kernel
theorem dX2_makeHeavier_17 : decode cX2_makeHeavier 17 = .ok (.bipush 65, 2) := by decide +kernel
theorem dX2_makeHeavier_19 : decode cX2_makeHeavier 19 = .ok (.if_icmp .ge 69, 3) := by decide +kernel
theorem dX2_makeHeavier_22 : decode cX2_makeHeavier 22 = .ok (.aload_n 0, 1) := by decide +kernel
theorem dX2_makeHeavier_23 : decode cX2_makeHeavier 23 = .ok (.iload_n 2, 1) := by decide +kernel
theorem dX2_makeHeavier_24 : decode cX2_makeHeavier 24 = .ok (.invokevirtual 72, 3) := by decide +kernel
theorem dX2_makeHeavier_27 : decode cX2_makeHeavier 27 = .ok (.istore 4, 2) := by decide +kernel
theorem dX2_makeHeavier_29 : decode cX2_makeHeavier 29 = .ok (.iload 4, 2) := by decide +kernel
theorem dX2_makeHeavier_31 : decode cX2_makeHeavier 31 = .ok (.iload_n 2, 1) := by decide +kernel
theorem dX2_makeHeavier_32 : decode cX2_makeHeavier 32 = .ok (.if_icmp .eq 20, 3) := by decide +kernel
theorem dX2_makeHeavier_35 : decode cX2_makeHeavier 35 = .ok (.aload_n 0, 1) := by decide +kernel
theorem dX2_makeHeavier_36 : decode cX2_makeHeavier 36 = .ok (.iload_n 2, 1) := by decide +kernel
theorem dX2_makeHeavier_37 : decode cX2_makeHeavier 37 = .ok (.iload 4, 2) := by decide +kernel
theorem dX2_makeHeavier_39 : decode cX2_makeHeavier 39 = .ok (.invokevirtual 75, 3) := by decide +kernel
theorem dX2_makeHeavier_42 : decode cX2_makeHeavier 42 = .ok (.aload_n 0, 1) := by decide +kernel
theorem dX2_makeHeavier_43 : decode cX2_makeHeavier 43 = .ok (.dup, 1) := by decide +kernel
theorem dX2_makeHeavier_44 : decode cX2_makeHeavier 44 = .ok (.getfield 79, 3) := by decide +kernel
theorem dX2_makeHeavier_47 : decode cX2_makeHeavier 47 = .ok (.iconst 1, 1) := by decide +kernel
theorem dX2_makeHeavier_48 : decode cX2_makeHeavier 48 = .ok (.iadd, 1) := by decide +kernel
theorem dX2_makeHeavier_49 : decode cX2_makeHeavier 49 = .ok (.putfield 79, 3) := by decide +kernel
theorem dX2_makeHeavier_52 : decode cX2_makeHeavier 52 = .ok (.aload_n 0, 1) := by decide +kernel
theorem dX2_makeHeavier_53 : decode cX2_makeHeavier 53 = .ok (.getfield 9, 3) := by decide +kernel
theorem dX2_makeHeavier_56 : decode cX2_makeHeavier 56 = .ok (.iload 4, 2) := by decide +kernel
theorem dX2_makeHeavier_58 : decode cX2_makeHeavier 58 = .ok (.aload_n 0, 1) := by decide +kernel
theorem dX2_makeHeavier_59 : decode cX2_makeHeavier 59 = .ok (.getfield 9, 3) := by decide +kernel
theorem dX2_makeHeavier_62 : decode cX2_makeHeavier 62 = .ok (.iload 4, 2) := by decide +kernel
theorem dX2_makeHeavier_64 : decode cX2_makeHeavier 64 = .ok (.invokestatic 54, 3) := by decide +kernel
theorem dX2_makeHeavier_67 : decode cX2_makeHeavier 67 = .ok (.iconst 1, 1) := by decide +kernel
theorem dX2_makeHeavier_68 : decode cX2_makeHeavier 68 = .ok (.iadd, 1) := by decide +kernel
theorem dX2_makeHeavier_69 : decode cX2_makeHeavier 69 = .ok (.invokestatic 68, 3) := by decide +kernel
theorem dX2_makeHeavier_72 : decode cX2_makeHeavier 72 = .ok (.aload_n 0, 1) := by decide +kernel
theorem dX2_makeHeavier_73 : decode cX2_makeHeavier 73 = .ok (.getfield 21, 3) := by decide +kernel
theorem dX2_makeHeavier_76 : decode cX2_makeHeavier 76 = .ok (.iload 4, 2) := by decide +kernel
theorem dX2_makeHeavier_78 : decode cX2_makeHeavier 78 = .ok (.invokestatic 54, 3) := by decide +kernel
theorem dX2_makeHeavier_81 : decode cX2_makeHeavier 81 = .ok (.istore_n 2, 1) := by decide +kernel
theorem dX2_makeHeavier_82 : decode cX2_makeHeavier 82 = .ok (.iinc 3 1, 3) := by decide +kernel
theorem dX2_makeHeavier_85 : decode cX2_makeHeavier 85 = .ok (.goto (-74), 3) := by decide +kernel
theorem dX2_makeHeavier_88 : decode cX2_makeHeavier 88 = .ok (.return_, 1) := by decide +kernel
set_option maxRecDepth 20000 in
theorem ggX2_firstAsHeavyAs_X3_at : GoodIn wsX2_firstAsHeavyAs wsX3_at := goodIn_r _ [4] (by decide +kernel) (by decide +kernel)
set_option maxRecDepth 20000 in
theorem gX2_firstAsHeavyAs_X3_at_n54 : GoodIn wsX2_firstAsHeavyAs (wsX3_at) := ggX2_firstAsHeavyAs_X3_at
theorem dX2_firstAsHeavyAs_0 : decode cX2_firstAsHeavyAs 0 = .ok (.aload_n 0, 1) := by decide +kernel
theorem dX2_firstAsHeavyAs_1 : decode cX2_firstAsHeavyAs 1 = .ok (.getfield 9, 3) := by decide +kernel
theorem dX2_firstAsHeavyAs_4 : decode cX2_firstAsHeavyAs 4 = .ok (.iload_n 1, 1) := by decide +kernel
theorem dX2_firstAsHeavyAs_5 : decode cX2_firstAsHeavyAs 5 = .ok (.invokestatic 54, 3) := by decide +kernel
theorem dX2_firstAsHeavyAs_8 : decode cX2_firstAsHeavyAs 8 = .ok (.istore_n 2, 1) := by decide +kernel
theorem dX2_firstAsHeavyAs_9 : decode cX2_firstAsHeavyAs 9 = .ok (.iconst 0, 1) := by decide +kernel
theorem dX2_firstAsHeavyAs_10 : decode cX2_firstAsHeavyAs 10 = .ok (.istore_n 3, 1) := by decide +kernel
theorem dX2_firstAsHeavyAs_11 : decode cX2_firstAsHeavyAs 11 = .ok (.iload_n 3, 1) := by decide +kernel
theorem dX2_firstAsHeavyAs_12 : decode cX2_firstAsHeavyAs 12 = .ok (.iload_n 1, 1) := by decide +kernel
theorem dX2_firstAsHeavyAs_13 : decode cX2_firstAsHeavyAs 13 = .ok (.if_icmp .ge 23, 3) := by decide +kernel
theorem dX2_firstAsHeavyAs_16 : decode cX2_firstAsHeavyAs 16 = .ok (.aload_n 0, 1) := by decide +kernel
theorem dX2_firstAsHeavyAs_17 : decode cX2_firstAsHeavyAs 17 = .ok (.getfield 9, 3) := by decide +kernel
theorem dX2_firstAsHeavyAs_20 : decode cX2_firstAsHeavyAs 20 = .ok (.iload_n 3, 1) := by decide +kernel
theorem dX2_firstAsHeavyAs_21 : decode cX2_firstAsHeavyAs 21 = .ok (.invokestatic 54, 3) := by decide +kernel
theorem dX2_firstAsHeavyAs_24 : decode cX2_firstAsHeavyAs 24 = .ok (.iload_n 2, 1) := by decide +kernel
theorem dX2_firstAsHeavyAs_25 : decode cX2_firstAsHeavyAs 25 = .ok (.if_icmp .ne 5, 3) := by decide +kernel
theorem dX2_firstAsHeavyAs_28 : decode cX2_firstAsHeavyAs 28 = .ok (.iload_n 3, 1) := by decide +kernel
theorem dX2_firstAsHeavyAs_29 : decode cX2_firstAsHeavyAs 29 = .ok (.ireturn, 1) := by decide +kernel
theorem dX2_firstAsHeavyAs_30 : decode cX2_firstAsHeavyAs 30 = .ok (.iinc 3 1, 3) := by decide +kernel
theorem dX2_firstAsHeavyAs_33 : decode cX2_firstAsHeavyAs 33 = .ok (.goto (-22), 3) := by decide +kernel
theorem dX2_firstAsHeavyAs_36 : decode cX2_firstAsHeavyAs 36 = .ok (.iload_n 1, 1) := by decide +kernel
theorem dX2_firstAsHeavyAs_37 : decode cX2_firstAsHeavyAs 37 = .ok (.ireturn, 1) := by decide +kernel
set_option maxRecDepth 20000 in
theorem ggX2_exchange_X3_at : GoodIn wsX2_exchange wsX3_at := goodIn_r _ [6] (by decide +kernel) (by decide +kernel)
set_option maxRecDepth 20000 in
theorem gX2_exchange_X3_at_n54 : GoodIn wsX2_exchange (wsX3_at) := ggX2_exchange_X3_at
set_option maxRecDepth 20000 in
theorem ggX2_exchange_X2_putNode : GoodIn wsX2_exchange wsX2_putNode := goodIn_r _ [11, 1, 2, 3, 12, 13, 14, 5, 15, 16, 17, 18, 19, 20, 21, 22, 23, 24] (by decide +kernel) (by decide +kernel)
set_option maxRecDepth 20000 in
theorem gX2_exchange_X2_putNode : GoodIn wsX2_exchange (wsV RX2 44 RX2 yX2_putNode wsX2_putNode) := goodIn_app (goodIn_of _ (by decide +kernel)) ggX2_exchange_X2_putNode
theorem dX2_exchange_0 : decode cX2_exchange 0 = .ok (.aload_n 0, 1) := by decide +kernel
theorem dX2_exchange_1 : decode cX2_exchange 1 = .ok (.getfield 9, 3) := by decide +kernel
theorem dX2_exchange_4 : decode cX2_exchange 4 = .ok (.iload_n 1, 1) := by decide +kernel
theorem dX2_exchange_5 : decode cX2_exchange 5 = .ok (.invokestatic 54, 3) := by decide +kernel
theorem dX2_exchange_8 : decode cX2_exchange 8 = .ok (.istore_n 3, 1) := by decide +kernel
theorem dX2_exchange_9 : decode cX2_exchange 9 = .ok (.aload_n 0, 1) := by decide +kernel
theorem dX2_exchange_10 : decode cX2_exchange 10 = .ok (.getfield 15, 3) := by decide +kernel
theorem dX2_exchange_13 : decode cX2_exchange 13 = .ok (.iload_n 1, 1) := by decide +kernel
theorem dX2_exchange_14 : decode cX2_exchange 14 = .ok (.invokestatic 54, 3) := by decide +kernel
theorem dX2_exchange_17 : decode cX2_exchange 17 = .ok (.istore 4, 2) := by decide +kernel
theorem dX2_exchange_19 : decode cX2_exchange 19 = .ok (.aload_n 0, 1) := by decide +kernel
theorem dX2_exchange_20 : decode cX2_exchange 20 = .ok (.getfield 18, 3) := by decide +kernel
theorem dX2_exchange_23 : decode cX2_exchange 23 = .ok (.iload_n 1, 1) := by decide +kernel
theorem dX2_exchange_24 : decode cX2_exchange 24 = .ok (.invokestatic 54, 3) := by decide +kernel
theorem dX2_exchange_27 : decode cX2_exchange 27 = .ok (.istore 5, 2) := by decide +kernel
theorem dX2_exchange_29 : decode cX2_exchange 29 = .ok (.aload_n 0, 1) := by decide +kernel
theorem dX2_exchange_30 : decode cX2_exchange 30 = .ok (.iload_n 1, 1) := by decide +kernel
theorem dX2_exchange_31 : decode cX2_exchange 31 = .ok (.aload_n 0, 1) := by decide +kernel
theorem dX2_exchange_32 : decode cX2_exchange 32 = .ok (.getfield 9, 3) := by decide +kernel
theorem dX2_exchange_35 : decode cX2_exchange 35 = .ok (.iload_n 2, 1) := by decide +kernel
theorem dX2_exchange_36 : decode cX2_exchange 36 = .ok (.invokestatic 54, 3) := by decide +kernel
theorem dX2_exchange_39 : decode cX2_exchange 39 = .ok (.aload_n 0, 1) := by decide +kernel
theorem dX2_exchange_40 : decode cX2_exchange 40 = .ok (.getfield 15, 3) := by decide +kernel
theorem dX2_exchange_43 : decode cX2_exchange 43 = .ok (.iload_n 2, 1) := by decide +kernel
theorem dX2_exchange_44 : decode cX2_exchange 44 = .ok (.invokestatic 54, 3) := by decide +kernel
theorem dX2_exchange_47 : decode cX2_exchange 47 = .ok (.aload_n 0, 1) := by decide +kernel
theorem dX2_exchange_48 : decode cX2_exchange 48 = .ok (.getfield 18, 3) := by decide +kernel
theorem dX2_exchange_51 : decode cX2_exchange 51 = .ok (.iload_n 2, 1) := by decide +kernel
theorem dX2_exchange_52 : decode cX2_exchange 52 = .ok (.invokestatic 54, 3) := by decide +kernel
theorem dX2_exchange_55 : decode cX2_exchange 55 = .ok (.invokevirtual 44, 3) := by decide +kernel
theorem dX2_exchange_58 : decode cX2_exchange 58 = .ok (.aload_n 0, 1) := by decide +kernel
theorem dX2_exchange_59 : decode cX2_exchange 59 = .ok (.iload_n 2, 1) := by decide +kernel
theorem dX2_exchange_60 : decode cX2_exchange 60 = .ok (.iload_n 3, 1) := by decide +kernel
theorem dX2_exchange_61 : decode cX2_exchange 61 = .ok (.iload 4, 2) := by decide +kernel
theorem dX2_exchange_63 : decode cX2_exchange 63 = .ok (.iload 5, 2) := by decide +kernel
theorem dX2_exchange_65 : decode cX2_exchange 65 = .ok (.invokevirtual 44, 3) := by decide +kernel
theorem dX2_exchange_68 : decode cX2_exchange 68 = .ok (.return_, 1) := by decide +kernel
set_option maxRecDepth 20000 in
theorem ggX2_wearDown_X2_fillHeap : GoodIn wsX2_wearDown wsX2_fillHeap := goodIn_r _ [8, 2, 9, 10, 11, 12, 13, 14, 15, 16, 17, 18, 19, 20, 21, 22, 23, 24, 25, 26, 27, 7, 28, 29, 30, 48, 49, 50, 51, 52, 53, 54, 55, 56, 57, 58, 59, 60] (by decide +kernel) (by decide +kernel)
set_option maxRecDepth 20000 in
theorem gX2_wearDown_X2_fillHeap : GoodIn wsX2_wearDown (wsV RX2 82 RX2 yX2_fillHeap wsX2_fillHeap) := goodIn_app (goodIn_of _ (by decide +kernel)) ggX2_wearDown_X2_fillHeap
set_option maxRecDepth 20000 in
theorem ggX2_wearDown_X2_takeLightest : GoodIn wsX2_wearDown wsX2_takeLightest := goodIn_r _ [34, 2, 35, 12, 36, 37, 15, 19, 29, 23, 30, 38, 39, 40, 7, 41, 9, 42, 43, 10, 44, 22, 24, 45, 46, 47, 48, 49, 50, 51, 52, 53, 54, 55, 56, 57, 58, 59, 60] (by decide +kernel) (by decide +kernel)
set_option maxRecDepth 20000 in
theorem gX2_wearDown_X2_takeLightest : GoodIn wsX2_wearDown (wsV RX2 86 RX2 yX2_takeLightest wsX2_takeLightest) := goodIn_app (goodIn_of _ (by decide +kernel)) ggX2_wearDown_X2_takeLightest
set_option maxRecDepth 20000 in
theorem ggX2_wearDown_X0_add : GoodIn wsX2_wearDown wsX0_add := goodIn_r _ [18, 19, 15, 20, 21, 22, 23, 24, 57, 58, 59, 60] (by decide +kernel) (by decide +kernel)
set_option maxRecDepth 20000 in
theorem gX2_wearDown_X0_add_n89 : GoodIn wsX2_wearDown (wsX0_add) := ggX2_wearDown_X0_add
theorem dX2_wearDown_0 : decode cX2_wearDown 0 = .ok (.aload_n 0, 1) := by decide +kernel
theorem dX2_wearDown_1 : decode cX2_wearDown 1 = .ok (.invokevirtual 82, 3) := by decide +kernel
theorem dX2_wearDown_4 : decode cX2_wearDown 4 = .ok (.istore_n 1, 1) := by decide +kernel
theorem dX2_wearDown_5 : decode cX2_wearDown 5 = .ok (.aload_n 0, 1) := by decide +kernel
theorem dX2_wearDown_6 : decode cX2_wearDown 6 = .ok (.dup, 1) := by decide +kernel
theorem dX2_wearDown_7 : decode cX2_wearDown 7 = .ok (.getfield 40, 3) := by decide +kernel
theorem dX2_wearDown_10 : decode cX2_wearDown 10 = .ok (.iconst 2, 1) := by decide +kernel
theorem dX2_wearDown_11 : decode cX2_wearDown 11 = .ok (.iload_n 1, 1) := by decide +kernel
theorem dX2_wearDown_12 : decode cX2_wearDown 12 = .ok (.imul, 1) := by decide +kernel
theorem dX2_wearDown_13 : decode cX2_wearDown 13 = .ok (.isub, 1) := by decide +kernel
theorem dX2_wearDown_14 : decode cX2_wearDown 14 = .ok (.putfield 40, 3) := by decide +kernel
theorem dX2_wearDown_17 : decode cX2_wearDown 17 = .ok (.aload_n 0, 1) := by decide +kernel
theorem dX2_wearDown_18 : decode cX2_wearDown 18 = .ok (.getfield 40, 3) := by decide +kernel
theorem dX2_wearDown_21 : decode cX2_wearDown 21 = .ok (.iconst 1, 1) := by decide +kernel
theorem dX2_wearDown_22 : decode cX2_wearDown 22 = .ok (.isub, 1) := by decide +kernel
theorem dX2_wearDown_23 : decode cX2_wearDown 23 = .ok (.istore_n 2, 1) := by decide +kernel
theorem dX2_wearDown_24 : decode cX2_wearDown 24 = .ok (.iload_n 2, 1) := by decide +kernel
theorem dX2_wearDown_25 : decode cX2_wearDown 25 = .ok (.ifCond .le 39, 3) := by decide +kernel
theorem dX2_wearDown_28 : decode cX2_wearDown 28 = .ok (.aload_n 0, 1) := by decide +kernel
theorem dX2_wearDown_29 : decode cX2_wearDown 29 = .ok (.iload_n 2, 1) := by decide +kernel
theorem dX2_wearDown_30 : decode cX2_wearDown 30 = .ok (.invokevirtual 86, 3) := by decide +kernel
theorem dX2_wearDown_33 : decode cX2_wearDown 33 = .ok (.istore_n 3, 1) := by decide +kernel
theorem dX2_wearDown_34 : decode cX2_wearDown 34 = .ok (.aload_n 0, 1) := by decide +kernel
theorem dX2_wearDown_35 : decode cX2_wearDown 35 = .ok (.iload_n 2, 1) := by decide +kernel
theorem dX2_wearDown_36 : decode cX2_wearDown 36 = .ok (.iconst 1, 1) := by decide +kernel
theorem dX2_wearDown_37 : decode cX2_wearDown 37 = .ok (.isub, 1) := by decide +kernel
theorem dX2_wearDown_38 : decode cX2_wearDown 38 = .ok (.invokevirtual 86, 3) := by decide +kernel
theorem dX2_wearDown_41 : decode cX2_wearDown 41 = .ok (.istore 4, 2) := by decide +kernel
theorem dX2_wearDown_43 : decode cX2_wearDown 43 = .ok (.aload_n 0, 1) := by decide +kernel
theorem dX2_wearDown_44 : decode cX2_wearDown 44 = .ok (.getfield 30, 3) := by decide +kernel
theorem dX2_wearDown_47 : decode cX2_wearDown 47 = .ok (.iload_n 3, 1) := by decide +kernel
theorem dX2_wearDown_48 : decode cX2_wearDown 48 = .ok (.iload 4, 2) := by decide +kernel
theorem dX2_wearDown_50 : decode cX2_wearDown 50 = .ok (.iadd, 1) := by decide +kernel
theorem dX2_wearDown_51 : decode cX2_wearDown 51 = .ok (.iconst (-1), 1) := by decide +kernel
theorem dX2_wearDown_52 : decode cX2_wearDown 52 = .ok (.iload_n 2, 1) := by decide +kernel
theorem dX2_wearDown_53 : decode cX2_wearDown 53 = .ok (.iconst 1, 1) := by decide +kernel
theorem dX2_wearDown_54 : decode cX2_wearDown 54 = .ok (.isub, 1) := by decide +kernel
theorem dX2_wearDown_55 : decode cX2_wearDown 55 = .ok (.invokevirtual 89, 3) := by decide +kernel
theorem dX2_wearDown_58 : decode cX2_wearDown 58 = .ok (.iinc 2 (-2), 3) := by decide +kernel
theorem dX2_wearDown_61 : decode cX2_wearDown 61 = .ok (.goto (-37), 3) := by decide +kernel
theorem dX2_wearDown_64 : decode cX2_wearDown 64 = .ok (.aload_n 0, 1) := by decide +kernel
theorem dX2_wearDown_65 : decode cX2_wearDown 65 = .ok (.iconst 0, 1) := by decide +kernel
theorem dX2_wearDown_66 : decode cX2_wearDown 66 = .ok (.invokevirtual 86, 3) := by decide +kernel
theorem dX2_wearDown_69 : decode cX2_wearDown 69 = .ok (.pop, 1) := by decide +kernel
theorem dX2_wearDown_70 : decode cX2_wearDown 70 = .ok (.aload_n 0, 1) := by decide +kernel
theorem dX2_wearDown_71 : decode cX2_wearDown 71 = .ok (.dup, 1) := by decide +kernel
theorem dX2_wearDown_72 : decode cX2_wearDown 72 = .ok (.getfield 93, 3) := by decide +kernel
theorem dX2_wearDown_75 : decode cX2_wearDown 75 = .ok (.iconst 1, 1) := by decide +kernel
theorem dX2_wearDown_76 : decode cX2_wearDown 76 = .ok (.iadd, 1) := by decide +kernel
theorem dX2_wearDown_77 : decode cX2_wearDown 77 = .ok (.putfield 93, 3) := by decide +kernel
theorem dX2_wearDown_80 : decode cX2_wearDown 80 = .ok (.iload_n 1, 1) := by decide +kernel
theorem dX2_wearDown_81 : decode cX2_wearDown 81 = .ok (.ireturn, 1) := by decide +kernel
set_option maxRecDepth 20000 in
theorem ggX2_fillHeap_X0_clear : GoodIn wsX2_fillHeap wsX0_clear := goodIn_r _ [7, 8, 34, 35, 36, 37] (by decide +kernel) (by decide +kernel)
set_option maxRecDepth 20000 in
theorem gX2_fillHeap_X0_clear_n96 : GoodIn wsX2_fillHeap (wsX0_clear) := ggX2_fillHeap_X0_clear
set_option maxRecDepth 20000 in
theorem ggX2_fillHeap_X0_add : GoodIn wsX2_fillHeap wsX0_add := goodIn_r _ [11, 12, 8, 13, 14, 15, 16, 17, 34, 35, 36, 37] (by decide +kernel) (by decide +kernel)
set_option maxRecDepth 20000 in
theorem gX2_fillHeap_X0_add_n89 : GoodIn wsX2_fillHeap (wsX0_add) := ggX2_fillHeap_X0_add
set_option maxRecDepth 20000 in
theorem ggX2_fillHeap_X2_knows : GoodIn wsX2_fillHeap wsX2_knows := goodIn_r _ [22, 3, 23, 16, 24, 25, 26, 27, 28, 29, 30, 31, 32, 33] (by decide +kernel) (by decide +kernel)
set_option maxRecDepth 20000 in
theorem gX2_fillHeap_X2_knows : GoodIn wsX2_fillHeap (wsV RX2 99 RX2 yX2_knows wsX2_knows) := goodIn_app (goodIn_of _ (by decide +kernel)) ggX2_fillHeap_X2_knows
set_option maxRecDepth 20000 in
theorem ggX2_fillHeap_X3_at : GoodIn wsX2_fillHeap wsX3_at := goodIn_r _ [24] (by decide +kernel) (by decide +kernel)
set_option maxRecDepth 20000 in
theorem gX2_fillHeap_X3_at_n54 : GoodIn wsX2_fillHeap (wsX3_at) := ggX2_fillHeap_X3_at
set_option maxRecDepth 20000 in
theorem ggX2_fillHeap_X3_put : GoodIn wsX2_fillHeap wsX3_put := goodIn_r _ [17] (by decide +kernel) (by decide +kernel)
set_option maxRecDepth 20000 in
theorem gX2_fillHeap_X3_put_n68 : GoodIn wsX2_fillHeap (wsX3_put) := ggX2_fillHeap_X3_put
theorem dX2_fillHeap_0 : decode cX2_fillHeap 0 = .ok (.iconst 0, 1) := by decide +kernel
theorem dX2_fillHeap_1 : decode cX2_fillHeap 1 = .ok (.istore_n 1, 1) := by decide +kernel
theorem dX2_fillHeap_2 : decode cX2_fillHeap 2 = .ok (.aload_n 0, 1) := by decide +kernel
theorem dX2_fillHeap_3 : decode cX2_fillHeap 3 = .ok (.getfield 30, 3) := by decide +kernel
theorem dX2_fillHeap_6 : decode cX2_fillHeap 6 = .ok (.invokevirtual 96, 3) := by decide +kernel
theorem dX2_fillHeap_9 : decode cX2_fillHeap 9 = .ok (.aload_n 0, 1) := by decide +kernel
theorem dX2_fillHeap_10 : decode cX2_fillHeap 10 = .ok (.getfield 30, 3) := by decide +kernel
theorem dX2_fillHeap_13 : decode cX2_fillHeap 13 = .ok (.iconst 1, 1) := by decide +kernel
theorem dX2_fillHeap_14 : decode cX2_fillHeap 14 = .ok (.bipush 32, 2) := by decide +kernel
theorem dX2_fillHeap_16 : decode cX2_fillHeap 16 = .ok (.iconst (-1), 1) := by decide +kernel
theorem dX2_fillHeap_17 : decode cX2_fillHeap 17 = .ok (.invokevirtual 89, 3) := by decide +kernel
theorem dX2_fillHeap_20 : decode cX2_fillHeap 20 = .ok (.iconst 0, 1) := by decide +kernel
theorem dX2_fillHeap_21 : decode cX2_fillHeap 21 = .ok (.istore_n 2, 1) := by decide +kernel
theorem dX2_fillHeap_22 : decode cX2_fillHeap 22 = .ok (.iload_n 2, 1) := by decide +kernel
theorem dX2_fillHeap_23 : decode cX2_fillHeap 23 = .ok (.bipush 32, 2) := by decide +kernel
theorem dX2_fillHeap_25 : decode cX2_fillHeap 25 = .ok (.if_icmp .ge 64, 3) := by decide +kernel
theorem dX2_fillHeap_28 : decode cX2_fillHeap 28 = .ok (.aload_n 0, 1) := by decide +kernel
theorem dX2_fillHeap_29 : decode cX2_fillHeap 29 = .ok (.iload_n 2, 1) := by decide +kernel
theorem dX2_fillHeap_30 : decode cX2_fillHeap 30 = .ok (.invokevirtual 99, 3) := by decide +kernel
theorem dX2_fillHeap_33 : decode cX2_fillHeap 33 = .ok (.ifCond .eq 50, 3) := by decide +kernel
theorem dX2_fillHeap_36 : decode cX2_fillHeap 36 = .ok (.aload_n 0, 1) := by decide +kernel
theorem dX2_fillHeap_37 : decode cX2_fillHeap 37 = .ok (.getfield 9, 3) := by decide +kernel
theorem dX2_fillHeap_40 : decode cX2_fillHeap 40 = .ok (.aload_n 0, 1) := by decide +kernel
theorem dX2_fillHeap_41 : decode cX2_fillHeap 41 = .ok (.getfield 24, 3) := by decide +kernel
theorem dX2_fillHeap_44 : decode cX2_fillHeap 44 = .ok (.iload_n 2, 1) := by decide +kernel
theorem dX2_fillHeap_45 : decode cX2_fillHeap 45 = .ok (.invokestatic 54, 3) := by decide +kernel
theorem dX2_fillHeap_48 : decode cX2_fillHeap 48 = .ok (.invokestatic 54, 3) := by decide +kernel
theorem dX2_fillHeap_51 : decode cX2_fillHeap 51 = .ok (.iconst 2, 1) := by decide +kernel
theorem dX2_fillHeap_52 : decode cX2_fillHeap 52 = .ok (.idiv, 1) := by decide +kernel
theorem dX2_fillHeap_53 : decode cX2_fillHeap 53 = .ok (.istore_n 3, 1) := by decide +kernel
theorem dX2_fillHeap_54 : decode cX2_fillHeap 54 = .ok (.iload_n 3, 1) := by decide +kernel
theorem dX2_fillHeap_55 : decode cX2_fillHeap 55 = .ok (.ifCond .le 16, 3) := by decide +kernel
theorem dX2_fillHeap_58 : decode cX2_fillHeap 58 = .ok (.aload_n 0, 1) := by decide +kernel
theorem dX2_fillHeap_59 : decode cX2_fillHeap 59 = .ok (.getfield 30, 3) := by decide +kernel
theorem dX2_fillHeap_62 : decode cX2_fillHeap 62 = .ok (.iload_n 3, 1) := by decide +kernel
theorem dX2_fillHeap_63 : decode cX2_fillHeap 63 = .ok (.iload_n 2, 1) := by decide +kernel
theorem dX2_fillHeap_64 : decode cX2_fillHeap 64 = .ok (.iconst (-1), 1) := by decide +kernel
theorem dX2_fillHeap_65 : decode cX2_fillHeap 65 = .ok (.invokevirtual 89, 3) := by decide +kernel
theorem dX2_fillHeap_68 : decode cX2_fillHeap 68 = .ok (.goto 15, 3) := by decide +kernel
theorem dX2_fillHeap_71 : decode cX2_fillHeap 71 = .ok (.aload_n 0, 1) := by decide +kernel
theorem dX2_fillHeap_72 : decode cX2_fillHeap 72 = .ok (.getfield 24, 3) := by decide +kernel
theorem dX2_fillHeap_75 : decode cX2_fillHeap 75 = .ok (.iload_n 2, 1) := by decide +kernel
theorem dX2_fillHeap_76 : decode cX2_fillHeap 76 = .ok (.iconst (-1), 1) := by decide +kernel
theorem dX2_fillHeap_77 : decode cX2_fillHeap 77 = .ok (.invokestatic 68, 3) := by decide +kernel
theorem dX2_fillHeap_80 : decode cX2_fillHeap 80 = .ok (.iinc 1 1, 3) := by decide +kernel
theorem dX2_fillHeap_83 : decode cX2_fillHeap 83 = .ok (.iinc 2 1, 3) := by decide +kernel
theorem dX2_fillHeap_86 : decode cX2_fillHeap 86 = .ok (.goto (-64), 3) := by decide +kernel
theorem dX2_fillHeap_89 : decode cX2_fillHeap 89 = .ok (.iload_n 1, 1) := by decide +kernel
theorem dX2_fillHeap_90 : decode cX2_fillHeap 90 = .ok (.ireturn, 1) := by decide +kernel
set_option maxRecDepth 20000 in
theorem ggX2_takeLightest_X0_lightest : GoodIn wsX2_takeLightest wsX0_lightest := goodIn_r _ [5, 6, 7, 8, 9, 10, 35, 36, 37, 38] (by decide +kernel) (by decide +kernel)
set_option maxRecDepth 20000 in
theorem gX2_takeLightest_X0_lightest_n103 : GoodIn wsX2_takeLightest (wsX0_lightest) := ggX2_takeLightest_X0_lightest
set_option maxRecDepth 20000 in
theorem ggX2_takeLightest_X3_at : GoodIn wsX2_takeLightest wsX3_at := goodIn_r _ [10] (by decide +kernel) (by decide +kernel)
set_option maxRecDepth 20000 in
theorem gX2_takeLightest_X3_at_n54 : GoodIn wsX2_takeLightest (wsX3_at) := ggX2_takeLightest_X3_at
set_option maxRecDepth 20000 in
theorem ggX2_takeLightest_X2_putNode : GoodIn wsX2_takeLightest wsX2_putNode := goodIn_r _ [15, 16, 17, 18, 19, 20, 21, 9, 22, 26, 27, 28, 29, 30, 31, 32, 33, 34] (by decide +kernel) (by decide +kernel)
set_option maxRecDepth 20000 in
theorem gX2_takeLightest_X2_putNode : GoodIn wsX2_takeLightest (wsV RX2 44 RX2 yX2_putNode wsX2_putNode) := goodIn_app (goodIn_of _ (by decide +kernel)) ggX2_takeLightest_X2_putNode
set_option maxRecDepth 20000 in
theorem ggX2_takeLightest_X0_drop : GoodIn wsX2_takeLightest wsX0_drop := goodIn_r _ [25, 7, 21, 9, 22, 35, 36, 37, 38] (by decide +kernel) (by decide +kernel)
set_option maxRecDepth 20000 in
theorem gX2_takeLightest_X0_drop_n109 : GoodIn wsX2_takeLightest (wsX0_drop) := ggX2_takeLightest_X0_drop
theorem dX2_takeLightest_0 : decode cX2_takeLightest 0 = .ok (.aload_n 0, 1) := by decide +kernel
theorem dX2_takeLightest_1 : decode cX2_takeLightest 1 = .ok (.getfield 30, 3) := by decide +kernel
theorem dX2_takeLightest_4 : decode cX2_takeLightest 4 = .ok (.invokevirtual 103, 3) := by decide +kernel
theorem dX2_takeLightest_7 : decode cX2_takeLightest 7 = .ok (.istore_n 2, 1) := by decide +kernel
theorem dX2_takeLightest_8 : decode cX2_takeLightest 8 = .ok (.aload_n 0, 1) := by decide +kernel
theorem dX2_takeLightest_9 : decode cX2_takeLightest 9 = .ok (.getfield 30, 3) := by decide +kernel
theorem dX2_takeLightest_12 : decode cX2_takeLightest 12 = .ok (.getfield 106, 3) := by decide +kernel
theorem dX2_takeLightest_15 : decode cX2_takeLightest 15 = .ok (.iload_n 2, 1) := by decide +kernel
theorem dX2_takeLightest_16 : decode cX2_takeLightest 16 = .ok (.invokestatic 54, 3) := by decide +kernel
theorem dX2_takeLightest_19 : decode cX2_takeLightest 19 = .ok (.istore_n 3, 1) := by decide +kernel
theorem dX2_takeLightest_20 : decode cX2_takeLightest 20 = .ok (.aload_n 0, 1) := by decide +kernel
theorem dX2_takeLightest_21 : decode cX2_takeLightest 21 = .ok (.iload_n 1, 1) := by decide +kernel
theorem dX2_takeLightest_22 : decode cX2_takeLightest 22 = .ok (.iload_n 3, 1) := by decide +kernel
theorem dX2_takeLightest_23 : decode cX2_takeLightest 23 = .ok (.aload_n 0, 1) := by decide +kernel
theorem dX2_takeLightest_24 : decode cX2_takeLightest 24 = .ok (.getfield 30, 3) := by decide +kernel
theorem dX2_takeLightest_27 : decode cX2_takeLightest 27 = .ok (.getfield 107, 3) := by decide +kernel
theorem dX2_takeLightest_30 : decode cX2_takeLightest 30 = .ok (.iload_n 2, 1) := by decide +kernel
theorem dX2_takeLightest_31 : decode cX2_takeLightest 31 = .ok (.invokestatic 54, 3) := by decide +kernel
theorem dX2_takeLightest_34 : decode cX2_takeLightest 34 = .ok (.aload_n 0, 1) := by decide +kernel
theorem dX2_takeLightest_35 : decode cX2_takeLightest 35 = .ok (.getfield 30, 3) := by decide +kernel
theorem dX2_takeLightest_38 : decode cX2_takeLightest 38 = .ok (.getfield 108, 3) := by decide +kernel
theorem dX2_takeLightest_41 : decode cX2_takeLightest 41 = .ok (.iload_n 2, 1) := by decide +kernel
theorem dX2_takeLightest_42 : decode cX2_takeLightest 42 = .ok (.invokestatic 54, 3) := by decide +kernel
theorem dX2_takeLightest_45 : decode cX2_takeLightest 45 = .ok (.invokevirtual 44, 3) := by decide +kernel
theorem dX2_takeLightest_48 : decode cX2_takeLightest 48 = .ok (.aload_n 0, 1) := by decide +kernel
theorem dX2_takeLightest_49 : decode cX2_takeLightest 49 = .ok (.getfield 30, 3) := by decide +kernel
theorem dX2_takeLightest_52 : decode cX2_takeLightest 52 = .ok (.iload_n 2, 1) := by decide +kernel
theorem dX2_takeLightest_53 : decode cX2_takeLightest 53 = .ok (.invokevirtual 109, 3) := by decide +kernel
theorem dX2_takeLightest_56 : decode cX2_takeLightest 56 = .ok (.iload_n 3, 1) := by decide +kernel
theorem dX2_takeLightest_57 : decode cX2_takeLightest 57 = .ok (.ireturn, 1) := by decide +kernel
set_option maxRecDepth 20000 in
theorem ggX3_init_X1_init : GoodIn wsX3_init wsX1_init := goodIn_r _ [10, 11, 2, 3, 12, 13, 14, 15, 16, 17, 18, 19, 20, 21, 22, 23, 24, 25, 26, 27, 28, 29, 30, 31, 32, 33, 34, 35, 36, 37, 38, 39, 40, 41, 42, 43, 44, 45, 46, 47, 54, 55, 56, 57, 58, 59, 60, 61, 62, 48, 49, 50, 51, 63, 64, 65, 66] (by decide +kernel) (by decide +kernel)
set_option maxRecDepth 20000 in
theorem gX3_init_X1_init_n11 : GoodIn wsX3_init (wsX1_init) := ggX3_init_X1_init
theorem dX3_init_0 : decode cX3_init 0 = .ok (.aload_n 0, 1) := by decide +kernel
theorem dX3_init_1 : decode cX3_init 1 = .ok (.invokespecial 3, 3) := by decide +kernel
theorem dX3_init_4 : decode cX3_init 4 = .ok (.aload_n 0, 1) := by decide +kernel
theorem dX3_init_5 : decode cX3_init 5 = .ok (.new 9, 3) := by decide +kernel
theorem dX3_init_8 : decode cX3_init 8 = .ok (.dup, 1) := by decide +kernel
theorem dX3_init_9 : decode cX3_init 9 = .ok (.invokespecial 11, 3) := by decide +kernel
theorem dX3_init_12 : decode cX3_init 12 = .ok (.putfield 12, 3) := by decide +kernel
theorem dX3_init_15 : decode cX3_init 15 = .ok (.aload_n 0, 1) := by decide +kernel
theorem dX3_init_16 : decode cX3_init 16 = .ok (.new 9, 3) := by decide +kernel
theorem dX3_init_19 : decode cX3_init 19 = .ok (.dup, 1) := by decide +kernel
theorem dX3_init_20 : decode cX3_init 20 = .ok (.invokespecial 11, 3) := by decide +kernel
theorem dX3_init_23 : decode cX3_init 23 = .ok (.putfield 16, 3) := by decide +kernel
theorem dX3_init_26 : decode cX3_init 26 = .ok (.return_, 1) := by decide +kernel
set_option maxRecDepth 20000 in
theorem ggX3_use_X3_requireIndex : GoodIn wsX3_use wsX3_requireIndex := goodIn_ca (goodIn_r _ [5, 6, 7] (by decide +kernel) (by decide +kernel)) (goodIn_sub (fun _ h => List.mem_cons_of_mem _ (List.mem_append_right _ h)) (by decide +kernel))
set_option maxRecDepth 20000 in
theorem gX3_use_X3_requireIndex : GoodIn wsX3_use (va_wsS RX3 19 yX3_requireIndex wsX3_requireIndex) := goodIn_app (goodIn_of _ (by decide +kernel)) ggX3_use_X3_requireIndex
set_option maxRecDepth 20000 in
theorem ggX3_use_X1_takeOne : GoodIn wsX3_use wsX1_takeOne := goodIn_r _ [11, 12, 13, 14, 15, 16, 17, 18, 9, 19, 20, 21, 22, 23, 24, 25, 4, 26, 27, 28, 29, 30, 31, 32, 33, 34, 35, 36, 37, 38, 39, 40, 41, 42, 43, 44, 45, 46, 47, 48, 49, 50, 51, 52, 53, 54, 55, 56, 57, 58, 59, 60, 61, 62, 63, 64, 65, 66, 67, 68, 69, 70, 71, 72, 73, 74, 75, 76, 77, 78, 79, 80, 81, 82, 83, 84, 85, 86, 87, 88, 89, 92, 93, 94, 95, 96, 97, 98, 99, 100, 101, 102, 103, 104, 105, 106, 107, 108] (by decide +kernel) (by decide +kernel)
set_option maxRecDepth 20000 in
theorem gX3_use_X1_takeOne_n23 : GoodIn wsX3_use (wsX1_takeOne) := ggX3_use_X1_takeOne
theorem dX3_use_0 : decode cX3_use 0 = .ok (.iload_n 1, 1) := by decide +kernel
theorem dX3_use_1 : decode cX3_use 1 = .ok (.bipush 32, 2) := by decide +kernel
theorem dX3_use_3 : decode cX3_use 3 = .ok (.invokestatic 19, 3) := by decide +kernel
theorem dX3_use_6 : decode cX3_use 6 = .ok (.aload_n 0, 1) := by decide +kernel
theorem dX3_use_7 : decode cX3_use 7 = .ok (.getfield 12, 3) := by decide +kernel
theorem dX3_use_10 : decode cX3_use 10 = .ok (.iload_n 1, 1) := by decide +kernel
theorem dX3_use_11 : decode cX3_use 11 = .ok (.invokevirtual 23, 3) := by decide +kernel
theorem dX3_use_14 : decode cX3_use 14 = .ok (.ireturn, 1) := by decide +kernel
set_option maxRecDepth 20000 in
theorem ggX3_useAll_X3_requireRow : GoodIn wsX3_useAll wsX3_requireRow := goodIn_ca (goodIn_ca (goodIn_r _ [5, 6, 7, 8, 9, 4, 10, 11, 12] (by decide +kernel) (by decide +kernel)) (goodIn_sub (fun _ h => List.mem_cons_of_mem _ (List.mem_append_left _ (List.mem_append_right _ h))) (by decide +kernel))) (goodIn_sub (fun _ h => List.mem_cons_of_mem _ (List.mem_append_right _ h)) (by decide +kernel))
set_option maxRecDepth 20000 in
theorem gX3_useAll_X3_requireRow : GoodIn wsX3_useAll (va_wsS RX3 27 yX3_requireRow wsX3_requireRow) := goodIn_app (goodIn_of _ (by decide +kernel)) ggX3_useAll_X3_requireRow
set_option maxRecDepth 20000 in
theorem ggX3_useAll_X1_takeRow : GoodIn wsX3_useAll wsX1_takeRow := goodIn_r _ [16, 17, 18, 19, 14, 20, 21, 22, 23, 24, 25, 26, 27, 28, 29, 30, 31, 32, 33, 34, 4, 35, 36, 37, 38, 39, 40, 41, 42, 43, 44, 45, 46, 47, 48, 49, 50, 51, 52, 53, 54, 55, 56, 57, 58, 59, 60, 61, 62, 63, 64, 65, 66, 67, 68, 69, 70, 71, 72, 73, 74, 75, 76, 77, 78, 79, 80, 81, 82, 83, 84, 85, 86, 87, 88, 89, 90, 91, 92, 93, 94, 95, 96, 97, 98, 101, 102, 103, 104, 105, 106, 107, 108, 109, 110, 111, 112, 113, 114, 115, 116, 117] (by decide +kernel) (by decide +kernel)
set_option maxRecDepth 20000 in
theorem gX3_useAll_X1_takeRow_n31 : GoodIn wsX3_useAll (wsX1_takeRow) := ggX3_useAll_X1_takeRow
theorem dX3_useAll_0 : decode cX3_useAll 0 = .ok (.iload_n 1, 1) := by decide +kernel
theorem dX3_useAll_1 : decode cX3_useAll 1 = .ok (.iload_n 2, 1) := by decide +kernel
theorem dX3_useAll_2 : decode cX3_useAll 2 = .ok (.iload_n 3, 1) := by decide +kernel
theorem dX3_useAll_3 : decode cX3_useAll 3 = .ok (.invokestatic 27, 3) := by decide +kernel
theorem dX3_useAll_6 : decode cX3_useAll 6 = .ok (.aload_n 0, 1) := by decide +kernel
theorem dX3_useAll_7 : decode cX3_useAll 7 = .ok (.getfield 12, 3) := by decide +kernel
theorem dX3_useAll_10 : decode cX3_useAll 10 = .ok (.iload_n 1, 1) := by decide +kernel
theorem dX3_useAll_11 : decode cX3_useAll 11 = .ok (.iload_n 2, 1) := by decide +kernel
theorem dX3_useAll_12 : decode cX3_useAll 12 = .ok (.iload_n 3, 1) := by decide +kernel
theorem dX3_useAll_13 : decode cX3_useAll 13 = .ok (.invokevirtual 31, 3) := by decide +kernel
theorem dX3_useAll_16 : decode cX3_useAll 16 = .ok (.ireturn, 1) := by decide +kernel
theorem dX3_setLimit_0 : decode cX3_setLimit 0 = .ok (.iload_n 1, 1) := by decide +kernel
theorem dX3_setLimit_1 : decode cX3_setLimit 1 = .ok (.iconst 4, 1) := by decide +kernel
theorem dX3_setLimit_2 : decode cX3_setLimit 2 = .ok (.if_icmp .lt 10, 3) := by decide +kernel
theorem dX3_setLimit_5 : decode cX3_setLimit 5 = .ok (.iload_n 1, 1) := by decide +kernel
theorem dX3_setLimit_6 : decode cX3_setLimit 6 = .ok (.sipush 400, 3) := by decide +kernel
theorem dX3_setLimit_9 : decode cX3_setLimit 9 = .ok (.if_icmp .le 13, 3) := by decide +kernel
theorem dX3_setLimit_12 : decode cX3_setLimit 12 = .ok (.new 35, 3) := by decide +kernel
theorem dX3_setLimit_15 : decode cX3_setLimit 15 = .ok (.dup, 1) := by decide +kernel
theorem dX3_setLimit_16 : decode cX3_setLimit 16 = .ok (.ldc 37, 2) := by decide +kernel
theorem dX3_setLimit_18 : decode cX3_setLimit 18 = .ok (.invokespecial 39, 3) := by decide +kernel
theorem dX3_setLimit_21 : decode cX3_setLimit 21 = .ok (.athrow, 1) := by decide +kernel
theorem dX3_setLimit_22 : decode cX3_setLimit 22 = .ok (.aload_n 0, 1) := by decide +kernel
theorem dX3_setLimit_23 : decode cX3_setLimit 23 = .ok (.getfield 12, 3) := by decide +kernel
theorem dX3_setLimit_26 : decode cX3_setLimit 26 = .ok (.getfield 42, 3) := by decide +kernel
theorem dX3_setLimit_29 : decode cX3_setLimit 29 = .ok (.istore_n 2, 1) := by decide +kernel
theorem dX3_setLimit_30 : decode cX3_setLimit 30 = .ok (.aload_n 0, 1) := by decide +kernel
theorem dX3_setLimit_31 : decode cX3_setLimit 31 = .ok (.getfield 12, 3) := by decide +kernel
theorem dX3_setLimit_34 : decode cX3_setLimit 34 = .ok (.iload_n 1, 1) := by decide +kernel
theorem dX3_setLimit_35 : decode cX3_setLimit 35 = .ok (.putfield 42, 3) := by decide +kernel
theorem dX3_setLimit_38 : decode cX3_setLimit 38 = .ok (.iload_n 2, 1) := by decide +kernel
theorem dX3_setLimit_39 : decode cX3_setLimit 39 = .ok (.ireturn, 1) := by decide +kernel
set_option maxRecDepth 20000 in
theorem ggX3_wear_X2_knownLasts : GoodIn wsX3_wear wsX2_knownLasts := goodIn_r _ [7, 8, 63, 64, 65, 66, 67, 68, 69, 70, 71] (by decide +kernel) (by decide +kernel)
set_option maxRecDepth 20000 in
theorem gX3_wear_X2_knownLasts_n50 : GoodIn wsX3_wear (wsX2_knownLasts) := ggX3_wear_X2_knownLasts
set_option maxRecDepth 20000 in
theorem ggX3_wear_X2_wearDown : GoodIn wsX3_wear wsX2_wearDown := goodIn_r _ [11, 8, 12, 13, 14, 15, 16, 5, 17, 18, 19, 20, 21, 22, 23, 24, 25, 26, 27, 28, 29, 30, 31, 32, 33, 34, 35, 36, 37, 38, 39, 40, 41, 42, 43, 44, 45, 46, 47, 48, 49, 50, 51, 52, 53, 54, 55, 56, 63, 64, 65, 66, 67, 68, 69, 70, 71, 72, 73, 74, 75] (by decide +kernel) (by decide +kernel)
set_option maxRecDepth 20000 in
theorem gX3_wear_X2_wearDown_n61 : GoodIn wsX3_wear (wsX2_wearDown) := ggX3_wear_X2_wearDown
theorem dX3_wear_0 : decode cX3_wear 0 = .ok (.aload_n 0, 1) := by decide +kernel
theorem dX3_wear_1 : decode cX3_wear 1 = .ok (.getfield 12, 3) := by decide +kernel
theorem dX3_wear_4 : decode cX3_wear 4 = .ok (.getfield 46, 3) := by decide +kernel
theorem dX3_wear_7 : decode cX3_wear 7 = .ok (.invokevirtual 50, 3) := by decide +kernel
theorem dX3_wear_10 : decode cX3_wear 10 = .ok (.ifCond .ne 13, 3) := by decide +kernel
theorem dX3_wear_13 : decode cX3_wear 13 = .ok (.new 56, 3) := by decide +kernel
theorem dX3_wear_16 : decode cX3_wear 16 = .ok (.dup, 1) := by decide +kernel
theorem dX3_wear_17 : decode cX3_wear 17 = .ok (.ldc 58, 2) := by decide +kernel
theorem dX3_wear_19 : decode cX3_wear 19 = .ok (.invokespecial 60, 3) := by decide +kernel
theorem dX3_wear_22 : decode cX3_wear 22 = .ok (.athrow, 1) := by decide +kernel
theorem dX3_wear_23 : decode cX3_wear 23 = .ok (.aload_n 0, 1) := by decide +kernel
theorem dX3_wear_24 : decode cX3_wear 24 = .ok (.getfield 12, 3) := by decide +kernel
theorem dX3_wear_27 : decode cX3_wear 27 = .ok (.getfield 46, 3) := by decide +kernel
theorem dX3_wear_30 : decode cX3_wear 30 = .ok (.invokevirtual 61, 3) := by decide +kernel
theorem dX3_wear_33 : decode cX3_wear 33 = .ok (.ireturn, 1) := by decide +kernel
set_option maxRecDepth 20000 in
theorem ggX3_told_X3_requireIndex : GoodIn wsX3_told wsX3_requireIndex := goodIn_ca (goodIn_r _ [5, 6, 7] (by decide +kernel) (by decide +kernel)) (goodIn_sub (fun _ h => List.mem_cons_of_mem _ (List.mem_append_right _ h)) (by decide +kernel))
set_option maxRecDepth 20000 in
theorem gX3_told_X3_requireIndex : GoodIn wsX3_told (va_wsS RX3 19 yX3_requireIndex wsX3_requireIndex) := goodIn_app (goodIn_of _ (by decide +kernel)) ggX3_told_X3_requireIndex
set_option maxRecDepth 20000 in
theorem ggX3_told_X1_bitsFor : GoodIn wsX3_told wsX1_bitsFor := goodIn_r _ [11, 12, 13, 14, 15, 16, 17, 18, 4, 19, 20, 21, 22, 23, 40, 41, 42, 43, 44, 45, 46, 47, 48, 49, 50, 51, 52] (by decide +kernel) (by decide +kernel)
set_option maxRecDepth 20000 in
theorem gX3_told_X1_bitsFor_n64 : GoodIn wsX3_told (wsX1_bitsFor) := ggX3_told_X1_bitsFor
set_option maxRecDepth 20000 in
theorem ggX3_told_X2_factOfLeaf : GoodIn wsX3_told wsX2_factOfLeaf := goodIn_r _ [26, 17, 27, 18, 4, 19, 28, 20, 21, 14, 22, 23, 29, 30, 31, 32, 33, 34, 35, 36, 37, 44, 45, 46, 47, 48, 49, 50, 51, 52] (by decide +kernel) (by decide +kernel)
set_option maxRecDepth 20000 in
theorem gX3_told_X2_factOfLeaf_n67 : GoodIn wsX3_told (wsX2_factOfLeaf) := ggX3_told_X2_factOfLeaf
theorem dX3_told_0 : decode cX3_told 0 = .ok (.iload_n 1, 1) := by decide +kernel
theorem dX3_told_1 : decode cX3_told 1 = .ok (.bipush 32, 2) := by decide +kernel
theorem dX3_told_3 : decode cX3_told 3 = .ok (.invokestatic 19, 3) := by decide +kernel
theorem dX3_told_6 : decode cX3_told 6 = .ok (.iload_n 2, 1) := by decide +kernel
theorem dX3_told_7 : decode cX3_told 7 = .ok (.bipush 6, 2) := by decide +kernel
theorem dX3_told_9 : decode cX3_told 9 = .ok (.invokestatic 19, 3) := by decide +kernel
theorem dX3_told_12 : decode cX3_told 12 = .ok (.iload_n 2, 1) := by decide +kernel
theorem dX3_told_13 : decode cX3_told 13 = .ok (.iconst 5, 1) := by decide +kernel
theorem dX3_told_14 : decode cX3_told 14 = .ok (.if_icmp .ne 14, 3) := by decide +kernel
theorem dX3_told_17 : decode cX3_told 17 = .ok (.aload_n 0, 1) := by decide +kernel
theorem dX3_told_18 : decode cX3_told 18 = .ok (.getfield 12, 3) := by decide +kernel
theorem dX3_told_21 : decode cX3_told 21 = .ok (.iload_n 1, 1) := by decide +kernel
theorem dX3_told_22 : decode cX3_told 22 = .ok (.invokevirtual 64, 3) := by decide +kernel
theorem dX3_told_25 : decode cX3_told 25 = .ok (.goto 15, 3) := by decide +kernel
theorem dX3_told_28 : decode cX3_told 28 = .ok (.aload_n 0, 1) := by decide +kernel
theorem dX3_told_29 : decode cX3_told 29 = .ok (.getfield 12, 3) := by decide +kernel
theorem dX3_told_32 : decode cX3_told 32 = .ok (.getfield 46, 3) := by decide +kernel
theorem dX3_told_35 : decode cX3_told 35 = .ok (.iload_n 1, 1) := by decide +kernel
theorem dX3_told_36 : decode cX3_told 36 = .ok (.iload_n 2, 1) := by decide +kernel
theorem dX3_told_37 : decode cX3_told 37 = .ok (.invokevirtual 67, 3) := by decide +kernel
theorem dX3_told_40 : decode cX3_told 40 = .ok (.ireturn, 1) := by decide +kernel
set_option maxRecDepth 20000 in
theorem ggX3_sole_X3_requireIndex : GoodIn wsX3_sole wsX3_requireIndex := goodIn_ca (goodIn_r _ [5, 6, 7] (by decide +kernel) (by decide +kernel)) (goodIn_sub (fun _ h => List.mem_cons_of_mem _ (List.mem_append_right _ h)) (by decide +kernel))
set_option maxRecDepth 20000 in
theorem gX3_sole_X3_requireIndex : GoodIn wsX3_sole (va_wsS RX3 19 yX3_requireIndex wsX3_requireIndex) := goodIn_app (goodIn_of _ (by decide +kernel)) ggX3_sole_X3_requireIndex
set_option maxRecDepth 20000 in
theorem ggX3_sole_X2_factOfLeaf : GoodIn wsX3_sole wsX2_factOfLeaf := goodIn_r _ [11, 12, 13, 14, 4, 15, 16, 17, 18, 9, 19, 20, 21, 22, 23, 24, 25, 26, 27, 28, 29, 36, 37, 38, 39, 40, 41, 42, 43, 44] (by decide +kernel) (by decide +kernel)
set_option maxRecDepth 20000 in
theorem gX3_sole_X2_factOfLeaf_n67 : GoodIn wsX3_sole (wsX2_factOfLeaf) := ggX3_sole_X2_factOfLeaf
theorem dX3_sole_0 : decode cX3_sole 0 = .ok (.iload_n 1, 1) := by decide +kernel
theorem dX3_sole_1 : decode cX3_sole 1 = .ok (.iconst 5, 1) := by decide +kernel
theorem dX3_sole_2 : decode cX3_sole 2 = .ok (.invokestatic 19, 3) := by decide +kernel
theorem dX3_sole_5 : decode cX3_sole 5 = .ok (.aload_n 0, 1) := by decide +kernel
theorem dX3_sole_6 : decode cX3_sole 6 = .ok (.getfield 12, 3) := by decide +kernel
theorem dX3_sole_9 : decode cX3_sole 9 = .ok (.getfield 46, 3) := by decide +kernel
theorem dX3_sole_12 : decode cX3_sole 12 = .ok (.bipush 32, 2) := by decide +kernel
theorem dX3_sole_14 : decode cX3_sole 14 = .ok (.iload_n 1, 1) := by decide +kernel
theorem dX3_sole_15 : decode cX3_sole 15 = .ok (.invokevirtual 67, 3) := by decide +kernel
theorem dX3_sole_18 : decode cX3_sole 18 = .ok (.ireturn, 1) := by decide +kernel
set_option maxRecDepth 20000 in
theorem ggX3_node_X3_requireIndex : GoodIn wsX3_node wsX3_requireIndex := goodIn_ca (goodIn_r _ [5, 6, 7] (by decide +kernel) (by decide +kernel)) (goodIn_sub (fun _ h => List.mem_cons_of_mem _ (List.mem_append_right _ h)) (by decide +kernel))
set_option maxRecDepth 20000 in
theorem gX3_node_X3_requireIndex : GoodIn wsX3_node (va_wsS RX3 19 yX3_requireIndex wsX3_requireIndex) := goodIn_app (goodIn_of _ (by decide +kernel)) ggX3_node_X3_requireIndex
set_option maxRecDepth 20000 in
theorem ggX3_node_X2_factOfNode : GoodIn wsX3_node wsX2_factOfNode := goodIn_r _ [11, 12, 13, 14, 15, 16, 4, 17, 24, 25, 26, 27, 28, 29, 30, 31, 32] (by decide +kernel) (by decide +kernel)
set_option maxRecDepth 20000 in
theorem gX3_node_X2_factOfNode_n74 : GoodIn wsX3_node (wsX2_factOfNode) := ggX3_node_X2_factOfNode
theorem dX3_node_0 : decode cX3_node 0 = .ok (.iload_n 1, 1) := by decide +kernel
theorem dX3_node_1 : decode cX3_node 1 = .ok (.aload_n 0, 1) := by decide +kernel
theorem dX3_node_2 : decode cX3_node 2 = .ok (.getfield 12, 3) := by decide +kernel
theorem dX3_node_5 : decode cX3_node 5 = .ok (.getfield 46, 3) := by decide +kernel
theorem dX3_node_8 : decode cX3_node 8 = .ok (.getfield 71, 3) := by decide +kernel
theorem dX3_node_11 : decode cX3_node 11 = .ok (.invokestatic 19, 3) := by decide +kernel
theorem dX3_node_14 : decode cX3_node 14 = .ok (.iload_n 2, 1) := by decide +kernel
theorem dX3_node_15 : decode cX3_node 15 = .ok (.iconst 4, 1) := by decide +kernel
theorem dX3_node_16 : decode cX3_node 16 = .ok (.invokestatic 19, 3) := by decide +kernel
theorem dX3_node_19 : decode cX3_node 19 = .ok (.aload_n 0, 1) := by decide +kernel
theorem dX3_node_20 : decode cX3_node 20 = .ok (.getfield 12, 3) := by decide +kernel
theorem dX3_node_23 : decode cX3_node 23 = .ok (.getfield 46, 3) := by decide +kernel
theorem dX3_node_26 : decode cX3_node 26 = .ok (.iload_n 1, 1) := by decide +kernel
theorem dX3_node_27 : decode cX3_node 27 = .ok (.iload_n 2, 1) := by decide +kernel
theorem dX3_node_28 : decode cX3_node 28 = .ok (.invokevirtual 74, 3) := by decide +kernel
theorem dX3_node_31 : decode cX3_node 31 = .ok (.ireturn, 1) := by decide +kernel
set_option maxRecDepth 20000 in
theorem ggX3_count_X3_requireIndex : GoodIn wsX3_count wsX3_requireIndex := goodIn_ca (goodIn_r _ [5, 6, 7] (by decide +kernel) (by decide +kernel)) (goodIn_sub (fun _ h => List.mem_cons_of_mem _ (List.mem_append_right _ h)) (by decide +kernel))
set_option maxRecDepth 20000 in
theorem gX3_count_X3_requireIndex : GoodIn wsX3_count (va_wsS RX3 19 yX3_requireIndex wsX3_requireIndex) := goodIn_app (goodIn_of _ (by decide +kernel)) ggX3_count_X3_requireIndex
set_option maxRecDepth 20000 in
theorem ggX3_count_X1_factOfShop : GoodIn wsX3_count wsX1_factOfShop := goodIn_r _ [11, 12, 13, 14, 15, 16, 17, 18, 19, 20, 21, 22, 23, 24, 25, 4, 26, 29, 30, 31, 32, 33, 34, 35, 36, 37, 38, 39, 40, 41] (by decide +kernel) (by decide +kernel)
set_option maxRecDepth 20000 in
theorem gX3_count_X1_factOfShop_n77 : GoodIn wsX3_count (wsX1_factOfShop) := ggX3_count_X1_factOfShop
theorem dX3_count_0 : decode cX3_count 0 = .ok (.iload_n 1, 1) := by decide +kernel
theorem dX3_count_1 : decode cX3_count 1 = .ok (.bipush 8, 2) := by decide +kernel
theorem dX3_count_3 : decode cX3_count 3 = .ok (.invokestatic 19, 3) := by decide +kernel
theorem dX3_count_6 : decode cX3_count 6 = .ok (.aload_n 0, 1) := by decide +kernel
theorem dX3_count_7 : decode cX3_count 7 = .ok (.getfield 12, 3) := by decide +kernel
theorem dX3_count_10 : decode cX3_count 10 = .ok (.iload_n 1, 1) := by decide +kernel
theorem dX3_count_11 : decode cX3_count 11 = .ok (.invokevirtual 77, 3) := by decide +kernel
theorem dX3_count_14 : decode cX3_count 14 = .ok (.ireturn, 1) := by decide +kernel
set_option maxRecDepth 20000 in
theorem ggX3_read_X2_firstWritten : GoodIn wsX3_read wsX2_firstWritten := goodIn_r _ [7, 8, 9, 10, 11, 12, 19, 20, 21, 22, 23, 24, 25, 26, 27] (by decide +kernel) (by decide +kernel)
set_option maxRecDepth 20000 in
theorem gX3_read_X2_firstWritten_n84 : GoodIn wsX3_read (wsX2_firstWritten) := ggX3_read_X2_firstWritten
theorem dX3_read_0 : decode cX3_read 0 = .ok (.iload_n 2, 1) := by decide +kernel
theorem dX3_read_1 : decode cX3_read 1 = .ok (.iconst 1, 1) := by decide +kernel
theorem dX3_read_2 : decode cX3_read 2 = .ok (.if_icmp .lt 9, 3) := by decide +kernel
theorem dX3_read_5 : decode cX3_read 5 = .ok (.iload_n 2, 1) := by decide +kernel
theorem dX3_read_6 : decode cX3_read 6 = .ok (.bipush 30, 2) := by decide +kernel
theorem dX3_read_8 : decode cX3_read 8 = .ok (.if_icmp .le 13, 3) := by decide +kernel
theorem dX3_read_11 : decode cX3_read 11 = .ok (.new 35, 3) := by decide +kernel
theorem dX3_read_14 : decode cX3_read 14 = .ok (.dup, 1) := by decide +kernel
theorem dX3_read_15 : decode cX3_read 15 = .ok (.ldc 80, 2) := by decide +kernel
theorem dX3_read_17 : decode cX3_read 17 = .ok (.invokespecial 39, 3) := by decide +kernel
theorem dX3_read_20 : decode cX3_read 20 = .ok (.athrow, 1) := by decide +kernel
theorem dX3_read_21 : decode cX3_read 21 = .ok (.iload_n 1, 1) := by decide +kernel
theorem dX3_read_22 : decode cX3_read 22 = .ok (.ifCond .lt 10, 3) := by decide +kernel
theorem dX3_read_25 : decode cX3_read 25 = .ok (.iload_n 1, 1) := by decide +kernel
theorem dX3_read_26 : decode cX3_read 26 = .ok (.iconst 1, 1) := by decide +kernel
theorem dX3_read_27 : decode cX3_read 27 = .ok (.iload_n 2, 1) := by decide +kernel
theorem dX3_read_28 : decode cX3_read 28 = .ok (.ishl, 1) := by decide +kernel
theorem dX3_read_29 : decode cX3_read 29 = .ok (.if_icmp .lt 13, 3) := by decide +kernel
theorem dX3_read_32 : decode cX3_read 32 = .ok (.new 35, 3) := by decide +kernel
theorem dX3_read_35 : decode cX3_read 35 = .ok (.dup, 1) := by decide +kernel
theorem dX3_read_36 : decode cX3_read 36 = .ok (.ldc 82, 2) := by decide +kernel
theorem dX3_read_38 : decode cX3_read 38 = .ok (.invokespecial 39, 3) := by decide +kernel
theorem dX3_read_41 : decode cX3_read 41 = .ok (.athrow, 1) := by decide +kernel
theorem dX3_read_42 : decode cX3_read 42 = .ok (.aload_n 0, 1) := by decide +kernel
theorem dX3_read_43 : decode cX3_read 43 = .ok (.getfield 12, 3) := by decide +kernel
theorem dX3_read_46 : decode cX3_read 46 = .ok (.getfield 46, 3) := by decide +kernel
theorem dX3_read_49 : decode cX3_read 49 = .ok (.iload_n 1, 1) := by decide +kernel
theorem dX3_read_50 : decode cX3_read 50 = .ok (.iload_n 2, 1) := by decide +kernel
theorem dX3_read_51 : decode cX3_read 51 = .ok (.invokevirtual 84, 3) := by decide +kernel
theorem dX3_read_54 : decode cX3_read 54 = .ok (.ireturn, 1) := by decide +kernel
set_option maxRecDepth 20000 in
theorem ggX3_cheapest_X2_knows : GoodIn wsX3_cheapest wsX2_knows := goodIn_r _ [5, 6, 7, 8, 9, 25, 26, 27, 28, 29, 30, 31, 32, 33] (by decide +kernel) (by decide +kernel)
set_option maxRecDepth 20000 in
theorem gX3_cheapest_X2_knows_n87 : GoodIn wsX3_cheapest (wsX2_knows) := ggX3_cheapest_X2_knows
set_option maxRecDepth 20000 in
theorem ggX3_cheapest_X1_bitsFor : GoodIn wsX3_cheapest wsX1_bitsFor := goodIn_r _ [13, 14, 2, 3, 4, 5, 6, 7, 8, 9, 15, 16, 17, 18, 21, 22, 23, 24, 25, 26, 27, 28, 29, 30, 31, 32, 33] (by decide +kernel) (by decide +kernel)
set_option maxRecDepth 20000 in
theorem gX3_cheapest_X1_bitsFor_n64 : GoodIn wsX3_cheapest (wsX1_bitsFor) := ggX3_cheapest_X1_bitsFor
theorem dX3_cheapest_0 : decode cX3_cheapest 0 = .ok (.iconst (-1), 1) := by decide +kernel
theorem dX3_cheapest_1 : decode cX3_cheapest 1 = .ok (.istore_n 1, 1) := by decide +kernel
theorem dX3_cheapest_2 : decode cX3_cheapest 2 = .ok (.iconst 0, 1) := by decide +kernel
theorem dX3_cheapest_3 : decode cX3_cheapest 3 = .ok (.istore_n 2, 1) := by decide +kernel
theorem dX3_cheapest_4 : decode cX3_cheapest 4 = .ok (.iload_n 2, 1) := by decide +kernel
theorem dX3_cheapest_5 : decode cX3_cheapest 5 = .ok (.bipush 32, 2) := by decide +kernel
theorem dX3_cheapest_7 : decode cX3_cheapest 7 = .ok (.if_icmp .ge 49, 3) := by decide +kernel
theorem dX3_cheapest_10 : decode cX3_cheapest 10 = .ok (.aload_n 0, 1) := by decide +kernel
theorem dX3_cheapest_11 : decode cX3_cheapest 11 = .ok (.getfield 12, 3) := by decide +kernel
theorem dX3_cheapest_14 : decode cX3_cheapest 14 = .ok (.getfield 46, 3) := by decide +kernel
theorem dX3_cheapest_17 : decode cX3_cheapest 17 = .ok (.iload_n 2, 1) := by decide +kernel
theorem dX3_cheapest_18 : decode cX3_cheapest 18 = .ok (.invokevirtual 87, 3) := by decide +kernel
theorem dX3_cheapest_21 : decode cX3_cheapest 21 = .ok (.ifCond .eq 29, 3) := by decide +kernel
theorem dX3_cheapest_24 : decode cX3_cheapest 24 = .ok (.iload_n 1, 1) := by decide +kernel
theorem dX3_cheapest_25 : decode cX3_cheapest 25 = .ok (.iconst (-1), 1) := by decide +kernel
theorem dX3_cheapest_26 : decode cX3_cheapest 26 = .ok (.if_icmp .eq 22, 3) := by decide +kernel
theorem dX3_cheapest_29 : decode cX3_cheapest 29 = .ok (.aload_n 0, 1) := by decide +kernel
theorem dX3_cheapest_30 : decode cX3_cheapest 30 = .ok (.getfield 12, 3) := by decide +kernel
theorem dX3_cheapest_33 : decode cX3_cheapest 33 = .ok (.iload_n 2, 1) := by decide +kernel
theorem dX3_cheapest_34 : decode cX3_cheapest 34 = .ok (.invokevirtual 64, 3) := by decide +kernel
theorem dX3_cheapest_37 : decode cX3_cheapest 37 = .ok (.aload_n 0, 1) := by decide +kernel
theorem dX3_cheapest_38 : decode cX3_cheapest 38 = .ok (.getfield 12, 3) := by decide +kernel
theorem dX3_cheapest_41 : decode cX3_cheapest 41 = .ok (.iload_n 1, 1) := by decide +kernel
theorem dX3_cheapest_42 : decode cX3_cheapest 42 = .ok (.invokevirtual 64, 3) := by decide +kernel
theorem dX3_cheapest_45 : decode cX3_cheapest 45 = .ok (.if_icmp .ge 5, 3) := by decide +kernel
theorem dX3_cheapest_48 : decode cX3_cheapest 48 = .ok (.iload_n 2, 1) := by decide +kernel
theorem dX3_cheapest_49 : decode cX3_cheapest 49 = .ok (.istore_n 1, 1) := by decide +kernel
theorem dX3_cheapest_50 : decode cX3_cheapest 50 = .ok (.iinc 2 1, 3) := by decide +kernel
theorem dX3_cheapest_53 : decode cX3_cheapest 53 = .ok (.goto (-49), 3) := by decide +kernel
theorem dX3_cheapest_56 : decode cX3_cheapest 56 = .ok (.iload_n 1, 1) := by decide +kernel
theorem dX3_cheapest_57 : decode cX3_cheapest 57 = .ok (.ireturn, 1) := by decide +kernel
set_option maxRecDepth 20000 in
theorem ggX3_would_X3_requireRow : GoodIn wsX3_would wsX3_requireRow := goodIn_ca (goodIn_ca (goodIn_r _ [6, 7, 8, 9, 10, 5, 11, 12, 13] (by decide +kernel) (by decide +kernel)) (goodIn_sub (fun _ h => List.mem_cons_of_mem _ (List.mem_append_left _ (List.mem_append_right _ h))) (by decide +kernel))) (goodIn_sub (fun _ h => List.mem_cons_of_mem _ (List.mem_append_right _ h)) (by decide +kernel))
set_option maxRecDepth 20000 in
theorem gX3_would_X3_requireRow : GoodIn wsX3_would (va_wsS RX3 27 yX3_requireRow wsX3_requireRow) := goodIn_app (goodIn_of _ (by decide +kernel)) ggX3_would_X3_requireRow
set_option maxRecDepth 20000 in
theorem ggX3_would_X1_startLike : GoodIn wsX3_would wsX1_startLike := goodIn_r _ [17, 18, 19, 20, 21, 22, 23, 24, 25, 26, 27, 28, 29, 30, 31, 32, 33, 112, 113, 114, 115, 116, 117, 118, 119, 120, 121, 122, 123, 124] (by decide +kernel) (by decide +kernel)
set_option maxRecDepth 20000 in
theorem gX3_would_X1_startLike_n91 : GoodIn wsX3_would (wsX1_startLike) := ggX3_would_X1_startLike
set_option maxRecDepth 20000 in
theorem ggX3_would_X1_takeRow : GoodIn wsX3_would wsX1_takeRow := goodIn_r _ [36, 37, 38, 39, 15, 40, 18, 41, 42, 19, 43, 44, 45, 46, 47, 21, 48, 49, 32, 50, 5, 51, 52, 53, 54, 31, 55, 56, 57, 33, 58, 59, 60, 61, 24, 29, 30, 62, 63, 64, 65, 66, 67, 68, 69, 70, 71, 72, 73, 74, 75, 76, 77, 78, 79, 80, 81, 82, 83, 84, 85, 86, 87, 88, 89, 90, 91, 92, 93, 94, 95, 96, 97, 98, 99, 100, 101, 102, 103, 104, 105, 106, 107, 108, 109, 112, 113, 114, 115, 116, 117, 118, 119, 120, 121, 122, 123, 124, 125, 126, 127, 128] (by decide +kernel) (by decide +kernel)
set_option maxRecDepth 20000 in
theorem gX3_would_X1_takeRow_n31 : GoodIn wsX3_would (wsX1_takeRow) := ggX3_would_X1_takeRow
theorem dX3_would_0 : decode cX3_would 0 = .ok (.iload_n 1, 1) := by decide +kernel
theorem dX3_would_1 : decode cX3_would 1 = .ok (.iload_n 2, 1) := by decide +kernel
theorem dX3_would_2 : decode cX3_would 2 = .ok (.iload_n 3, 1) := by decide +kernel
theorem dX3_would_3 : decode cX3_would 3 = .ok (.invokestatic 27, 3) := by decide +kernel
theorem dX3_would_6 : decode cX3_would 6 = .ok (.aload_n 0, 1) := by decide +kernel
theorem dX3_would_7 : decode cX3_would 7 = .ok (.getfield 16, 3) := by decide +kernel
theorem dX3_would_10 : decode cX3_would 10 = .ok (.aload_n 0, 1) := by decide +kernel
theorem dX3_would_11 : decode cX3_would 11 = .ok (.getfield 12, 3) := by decide +kernel
theorem dX3_would_14 : decode cX3_would 14 = .ok (.invokevirtual 91, 3) := by decide +kernel
theorem dX3_would_17 : decode cX3_would 17 = .ok (.aload_n 0, 1) := by decide +kernel
theorem dX3_would_18 : decode cX3_would 18 = .ok (.getfield 16, 3) := by decide +kernel
theorem dX3_would_21 : decode cX3_would 21 = .ok (.iload_n 1, 1) := by decide +kernel
theorem dX3_would_22 : decode cX3_would 22 = .ok (.iload_n 2, 1) := by decide +kernel
theorem dX3_would_23 : decode cX3_would 23 = .ok (.iload_n 3, 1) := by decide +kernel
theorem dX3_would_24 : decode cX3_would 24 = .ok (.invokevirtual 31, 3) := by decide +kernel
theorem dX3_would_27 : decode cX3_would 27 = .ok (.ireturn, 1) := by decide +kernel
set_option maxRecDepth 20000 in
theorem ggX3_advise_X3_requireRow : GoodIn wsX3_advise wsX3_requireRow := goodIn_ca (goodIn_ca (goodIn_r _ [7, 8, 9, 10, 11, 6, 12, 13, 14] (by decide +kernel) (by decide +kernel)) (goodIn_sub (fun _ h => List.mem_cons_of_mem _ (List.mem_append_left _ (List.mem_append_right _ h))) (by decide +kernel))) (goodIn_sub (fun _ h => List.mem_cons_of_mem _ (List.mem_append_right _ h)) (by decide +kernel))
set_option maxRecDepth 20000 in
theorem gX3_advise_X3_requireRow : GoodIn wsX3_advise (va_wsS RX3 27 yX3_requireRow wsX3_requireRow) := goodIn_app (goodIn_of _ (by decide +kernel)) ggX3_advise_X3_requireRow
set_option maxRecDepth 20000 in
theorem ggX3_advise_X1_startLike : GoodIn wsX3_advise wsX1_startLike := goodIn_r _ [18, 19, 20, 21, 22, 23, 24, 25, 26, 27, 28, 29, 30, 31, 32, 33, 34, 113, 114, 115, 116, 117, 118, 119, 120, 121, 122, 123, 124, 125] (by decide +kernel) (by decide +kernel)
set_option maxRecDepth 20000 in
theorem gX3_advise_X1_startLike_n91 : GoodIn wsX3_advise (wsX1_startLike) := ggX3_advise_X1_startLike
set_option maxRecDepth 20000 in
theorem ggX3_advise_X1_takeRow : GoodIn wsX3_advise wsX1_takeRow := goodIn_r _ [37, 38, 39, 40, 16, 41, 19, 42, 43, 20, 44, 45, 46, 47, 48, 22, 49, 50, 33, 51, 6, 52, 53, 54, 55, 32, 56, 57, 58, 34, 59, 60, 61, 62, 25, 30, 31, 63, 64, 65, 66, 67, 68, 69, 70, 71, 72, 73, 74, 75, 76, 77, 78, 79, 80, 81, 82, 83, 84, 85, 86, 87, 88, 89, 90, 91, 92, 93, 94, 95, 96, 97, 98, 99, 100, 101, 102, 103, 104, 105, 106, 107, 108, 109, 110, 113, 114, 115, 116, 117, 118, 119, 120, 121, 122, 123, 124, 125, 126, 127, 128, 129] (by decide +kernel) (by decide +kernel)
set_option maxRecDepth 20000 in
theorem gX3_advise_X1_takeRow_n31 : GoodIn wsX3_advise (wsX1_takeRow) := ggX3_advise_X1_takeRow
theorem dX3_advise_0 : decode cX3_advise 0 = .ok (.iload_n 1, 1) := by decide +kernel
theorem dX3_advise_1 : decode cX3_advise 1 = .ok (.iload_n 2, 1) := by decide +kernel
theorem dX3_advise_2 : decode cX3_advise 2 = .ok (.iload_n 3, 1) := by decide +kernel
theorem dX3_advise_3 : decode cX3_advise 3 = .ok (.invokestatic 27, 3) := by decide +kernel
theorem dX3_advise_6 : decode cX3_advise 6 = .ok (.iconst (-1), 1) := by decide +kernel
theorem dX3_advise_7 : decode cX3_advise 7 = .ok (.istore 4, 2) := by decide +kernel
theorem dX3_advise_9 : decode cX3_advise 9 = .ok (.iconst 0, 1) := by decide +kernel
theorem dX3_advise_10 : decode cX3_advise 10 = .ok (.istore 5, 2) := by decide +kernel
theorem dX3_advise_12 : decode cX3_advise 12 = .ok (.getstatic 95, 3) := by decide +kernel
theorem dX3_advise_15 : decode cX3_advise 15 = .ok (.astore 6, 2) := by decide +kernel
theorem dX3_advise_17 : decode cX3_advise 17 = .ok (.aload 6, 2) := by decide +kernel
theorem dX3_advise_19 : decode cX3_advise 19 = .ok (.arraylength, 1) := by decide +kernel
theorem dX3_advise_20 : decode cX3_advise 20 = .ok (.istore 7, 2) := by decide +kernel
theorem dX3_advise_22 : decode cX3_advise 22 = .ok (.iconst 0, 1) := by decide +kernel
theorem dX3_advise_23 : decode cX3_advise 23 = .ok (.istore 8, 2) := by decide +kernel
theorem dX3_advise_25 : decode cX3_advise 25 = .ok (.iload 8, 2) := by decide +kernel
theorem dX3_advise_27 : decode cX3_advise 27 = .ok (.iload 7, 2) := by decide +kernel
theorem dX3_advise_29 : decode cX3_advise 29 = .ok (.if_icmp .ge 69, 3) := by decide +kernel
theorem dX3_advise_32 : decode cX3_advise 32 = .ok (.aload 6, 2) := by decide +kernel
theorem dX3_advise_34 : decode cX3_advise 34 = .ok (.iload 8, 2) := by decide +kernel
theorem dX3_advise_36 : decode cX3_advise 36 = .ok (.iaload, 1) := by decide +kernel
theorem dX3_advise_37 : decode cX3_advise 37 = .ok (.istore 9, 2) := by decide +kernel
theorem dX3_advise_39 : decode cX3_advise 39 = .ok (.aload_n 0, 1) := by decide +kernel
theorem dX3_advise_40 : decode cX3_advise 40 = .ok (.getfield 16, 3) := by decide +kernel
theorem dX3_advise_43 : decode cX3_advise 43 = .ok (.aload_n 0, 1) := by decide +kernel
theorem dX3_advise_44 : decode cX3_advise 44 = .ok (.getfield 12, 3) := by decide +kernel
theorem dX3_advise_47 : decode cX3_advise 47 = .ok (.invokevirtual 91, 3) := by decide +kernel
theorem dX3_advise_50 : decode cX3_advise 50 = .ok (.aload_n 0, 1) := by decide +kernel
theorem dX3_advise_51 : decode cX3_advise 51 = .ok (.getfield 16, 3) := by decide +kernel
theorem dX3_advise_54 : decode cX3_advise 54 = .ok (.iload 9, 2) := by decide +kernel
theorem dX3_advise_56 : decode cX3_advise 56 = .ok (.putfield 42, 3) := by decide +kernel
theorem dX3_advise_59 : decode cX3_advise 59 = .ok (.aload_n 0, 1) := by decide +kernel
theorem dX3_advise_60 : decode cX3_advise 60 = .ok (.getfield 16, 3) := by decide +kernel
theorem dX3_advise_63 : decode cX3_advise 63 = .ok (.iload_n 1, 1) := by decide +kernel
theorem dX3_advise_64 : decode cX3_advise 64 = .ok (.iload_n 2, 1) := by decide +kernel
theorem dX3_advise_65 : decode cX3_advise 65 = .ok (.iload_n 3, 1) := by decide +kernel
theorem dX3_advise_66 : decode cX3_advise 66 = .ok (.invokevirtual 31, 3) := by decide +kernel
theorem dX3_advise_69 : decode cX3_advise 69 = .ok (.istore 10, 2) := by decide +kernel
theorem dX3_advise_71 : decode cX3_advise 71 = .ok (.iload 4, 2) := by decide +kernel
theorem dX3_advise_73 : decode cX3_advise 73 = .ok (.iconst (-1), 1) := by decide +kernel
theorem dX3_advise_74 : decode cX3_advise 74 = .ok (.if_icmp .eq 10, 3) := by decide +kernel
theorem dX3_advise_77 : decode cX3_advise 77 = .ok (.iload 10, 2) := by decide +kernel
theorem dX3_advise_79 : decode cX3_advise 79 = .ok (.iload 5, 2) := by decide +kernel
theorem dX3_advise_81 : decode cX3_advise 81 = .ok (.if_icmp .ge 11, 3) := by decide +kernel
theorem dX3_advise_84 : decode cX3_advise 84 = .ok (.iload 9, 2) := by decide +kernel
theorem dX3_advise_86 : decode cX3_advise 86 = .ok (.istore 4, 2) := by decide +kernel
theorem dX3_advise_88 : decode cX3_advise 88 = .ok (.iload 10, 2) := by decide +kernel
theorem dX3_advise_90 : decode cX3_advise 90 = .ok (.istore 5, 2) := by decide +kernel
theorem dX3_advise_92 : decode cX3_advise 92 = .ok (.iinc 8 1, 3) := by decide +kernel
theorem dX3_advise_95 : decode cX3_advise 95 = .ok (.goto (-70), 3) := by decide +kernel
theorem dX3_advise_98 : decode cX3_advise 98 = .ok (.iload 4, 2) := by decide +kernel
theorem dX3_advise_100 : decode cX3_advise 100 = .ok (.ireturn, 1) := by decide +kernel
theorem dX3_saved_0 : decode cX3_saved 0 = .ok (.aload_n 0, 1) := by decide +kernel
theorem dX3_saved_1 : decode cX3_saved 1 = .ok (.getfield 12, 3) := by decide +kernel
theorem dX3_saved_4 : decode cX3_saved 4 = .ok (.getfield 99, 3) := by decide +kernel
theorem dX3_saved_7 : decode cX3_saved 7 = .ok (.iconst 5, 1) := by decide +kernel
theorem dX3_saved_8 : decode cX3_saved 8 = .ok (.imul, 1) := by decide +kernel
theorem dX3_saved_9 : decode cX3_saved 9 = .ok (.aload_n 0, 1) := by decide +kernel
theorem dX3_saved_10 : decode cX3_saved 10 = .ok (.getfield 12, 3) := by decide +kernel
theorem dX3_saved_13 : decode cX3_saved 13 = .ok (.getfield 102, 3) := by decide +kernel
theorem dX3_saved_16 : decode cX3_saved 16 = .ok (.isub, 1) := by decide +kernel
theorem dX3_saved_17 : decode cX3_saved 17 = .ok (.ireturn, 1) := by decide +kernel
theorem dX3_mean_0 : decode cX3_mean 0 = .ok (.aload_n 0, 1) := by decide +kernel
theorem dX3_mean_1 : decode cX3_mean 1 = .ok (.getfield 12, 3) := by decide +kernel
theorem dX3_mean_4 : decode cX3_mean 4 = .ok (.getfield 99, 3) := by decide +kernel
theorem dX3_mean_7 : decode cX3_mean 7 = .ok (.ifCond .ne 7, 3) := by decide +kernel
theorem dX3_mean_10 : decode cX3_mean 10 = .ok (.dconst 0, 1) := by decide +kernel
theorem dX3_mean_11 : decode cX3_mean 11 = .ok (.goto 20, 3) := by decide +kernel
theorem dX3_mean_14 : decode cX3_mean 14 = .ok (.aload_n 0, 1) := by decide +kernel
theorem dX3_mean_15 : decode cX3_mean 15 = .ok (.getfield 12, 3) := by decide +kernel
theorem dX3_mean_18 : decode cX3_mean 18 = .ok (.getfield 102, 3) := by decide +kernel
theorem dX3_mean_21 : decode cX3_mean 21 = .ok (.i2d, 1) := by decide +kernel
theorem dX3_mean_22 : decode cX3_mean 22 = .ok (.aload_n 0, 1) := by decide +kernel
theorem dX3_mean_23 : decode cX3_mean 23 = .ok (.getfield 12, 3) := by decide +kernel
theorem dX3_mean_26 : decode cX3_mean 26 = .ok (.getfield 99, 3) := by decide +kernel
theorem dX3_mean_29 : decode cX3_mean 29 = .ok (.i2d, 1) := by decide +kernel
theorem dX3_mean_30 : decode cX3_mean 30 = .ok (.ddiv, 1) := by decide +kernel
theorem dX3_mean_31 : decode cX3_mean 31 = .ok (.dreturn, 1) := by decide +kernel
set_option maxRecDepth 20000 in
theorem ggX3_digest_X1_factOfShop : GoodIn wsX3_digest wsX1_factOfShop := goodIn_r _ [7, 8, 9, 10, 11, 12, 13, 14, 15, 16, 17, 18, 19, 20, 21, 22, 23, 42, 43, 44, 45, 46, 47, 48, 49, 50, 51, 52, 53, 54] (by decide +kernel) (by decide +kernel)
set_option maxRecDepth 20000 in
theorem gX3_digest_X1_factOfShop_n77 : GoodIn wsX3_digest (wsX1_factOfShop) := ggX3_digest_X1_factOfShop
set_option maxRecDepth 20000 in
theorem ggX3_digest_X2_factOfNode : GoodIn wsX3_digest wsX2_factOfNode := goodIn_r _ [26, 20, 27, 28, 29, 21, 22, 23, 46, 47, 48, 49, 50, 51, 52, 53, 54] (by decide +kernel) (by decide +kernel)
set_option maxRecDepth 20000 in
theorem gX3_digest_X2_factOfNode_n74 : GoodIn wsX3_digest (wsX2_factOfNode) := ggX3_digest_X2_factOfNode
set_option maxRecDepth 20000 in
theorem ggX3_digest_X1_bitsFor : GoodIn wsX3_digest wsX1_bitsFor := goodIn_r _ [32, 8, 33, 13, 34, 35, 36, 21, 22, 23, 37, 38, 39, 28, 42, 43, 44, 45, 46, 47, 48, 49, 50, 51, 52, 53, 54] (by decide +kernel) (by decide +kernel)
set_option maxRecDepth 20000 in
theorem gX3_digest_X1_bitsFor_n64 : GoodIn wsX3_digest (wsX1_bitsFor) := ggX3_digest_X1_bitsFor
theorem dX3_digest_0 : decode cX3_digest 0 = .ok (.ldc2_w 105, 3) := by decide +kernel
theorem dX3_digest_3 : decode cX3_digest 3 = .ok (.lstore_n 1, 1) := by decide +kernel
theorem dX3_digest_4 : decode cX3_digest 4 = .ok (.iconst 0, 1) := by decide +kernel
theorem dX3_digest_5 : decode cX3_digest 5 = .ok (.istore_n 3, 1) := by decide +kernel
theorem dX3_digest_6 : decode cX3_digest 6 = .ok (.iload_n 3, 1) := by decide +kernel
theorem dX3_digest_7 : decode cX3_digest 7 = .ok (.bipush 8, 2) := by decide +kernel
theorem dX3_digest_9 : decode cX3_digest 9 = .ok (.if_icmp .ge 25, 3) := by decide +kernel
theorem dX3_digest_12 : decode cX3_digest 12 = .ok (.lload_n 1, 1) := by decide +kernel
theorem dX3_digest_13 : decode cX3_digest 13 = .ok (.ldc2_w 107, 3) := by decide +kernel
theorem dX3_digest_16 : decode cX3_digest 16 = .ok (.lmul, 1) := by decide +kernel
theorem dX3_digest_17 : decode cX3_digest 17 = .ok (.aload_n 0, 1) := by decide +kernel
theorem dX3_digest_18 : decode cX3_digest 18 = .ok (.getfield 12, 3) := by decide +kernel
theorem dX3_digest_21 : decode cX3_digest 21 = .ok (.iload_n 3, 1) := by decide +kernel
theorem dX3_digest_22 : decode cX3_digest 22 = .ok (.invokevirtual 77, 3) := by decide +kernel
theorem dX3_digest_25 : decode cX3_digest 25 = .ok (.i2l, 1) := by decide +kernel
theorem dX3_digest_26 : decode cX3_digest 26 = .ok (.ladd, 1) := by decide +kernel
theorem dX3_digest_27 : decode cX3_digest 27 = .ok (.lstore_n 1, 1) := by decide +kernel
theorem dX3_digest_28 : decode cX3_digest 28 = .ok (.iinc 3 1, 3) := by decide +kernel
theorem dX3_digest_31 : decode cX3_digest 31 = .ok (.goto (-25), 3) := by decide +kernel
theorem dX3_digest_34 : decode cX3_digest 34 = .ok (.aload_n 0, 1) := by decide +kernel
theorem dX3_digest_35 : decode cX3_digest 35 = .ok (.getfield 12, 3) := by decide +kernel
theorem dX3_digest_38 : decode cX3_digest 38 = .ok (.getfield 46, 3) := by decide +kernel
theorem dX3_digest_41 : decode cX3_digest 41 = .ok (.getfield 71, 3) := by decide +kernel
theorem dX3_digest_44 : decode cX3_digest 44 = .ok (.istore_n 3, 1) := by decide +kernel
theorem dX3_digest_45 : decode cX3_digest 45 = .ok (.iconst 0, 1) := by decide +kernel
theorem dX3_digest_46 : decode cX3_digest 46 = .ok (.istore 4, 2) := by decide +kernel
theorem dX3_digest_48 : decode cX3_digest 48 = .ok (.iload 4, 2) := by decide +kernel
theorem dX3_digest_50 : decode cX3_digest 50 = .ok (.iload_n 3, 1) := by decide +kernel
theorem dX3_digest_51 : decode cX3_digest 51 = .ok (.if_icmp .ge 46, 3) := by decide +kernel
theorem dX3_digest_54 : decode cX3_digest 54 = .ok (.iconst 0, 1) := by decide +kernel
theorem dX3_digest_55 : decode cX3_digest 55 = .ok (.istore 5, 2) := by decide +kernel
theorem dX3_digest_57 : decode cX3_digest 57 = .ok (.iload 5, 2) := by decide +kernel
theorem dX3_digest_59 : decode cX3_digest 59 = .ok (.iconst 4, 1) := by decide +kernel
theorem dX3_digest_60 : decode cX3_digest 60 = .ok (.if_icmp .ge 31, 3) := by decide +kernel
theorem dX3_digest_63 : decode cX3_digest 63 = .ok (.lload_n 1, 1) := by decide +kernel
theorem dX3_digest_64 : decode cX3_digest 64 = .ok (.ldc2_w 107, 3) := by decide +kernel
theorem dX3_digest_67 : decode cX3_digest 67 = .ok (.lmul, 1) := by decide +kernel
theorem dX3_digest_68 : decode cX3_digest 68 = .ok (.aload_n 0, 1) := by decide +kernel
theorem dX3_digest_69 : decode cX3_digest 69 = .ok (.getfield 12, 3) := by decide +kernel
theorem dX3_digest_72 : decode cX3_digest 72 = .ok (.getfield 46, 3) := by decide +kernel
theorem dX3_digest_75 : decode cX3_digest 75 = .ok (.iload 4, 2) := by decide +kernel
theorem dX3_digest_77 : decode cX3_digest 77 = .ok (.iload 5, 2) := by decide +kernel
theorem dX3_digest_79 : decode cX3_digest 79 = .ok (.invokevirtual 74, 3) := by decide +kernel
theorem dX3_digest_82 : decode cX3_digest 82 = .ok (.i2l, 1) := by decide +kernel
theorem dX3_digest_83 : decode cX3_digest 83 = .ok (.ladd, 1) := by decide +kernel
theorem dX3_digest_84 : decode cX3_digest 84 = .ok (.lstore_n 1, 1) := by decide +kernel
theorem dX3_digest_85 : decode cX3_digest 85 = .ok (.iinc 5 1, 3) := by decide +kernel
theorem dX3_digest_88 : decode cX3_digest 88 = .ok (.goto (-31), 3) := by decide +kernel
theorem dX3_digest_91 : decode cX3_digest 91 = .ok (.iinc 4 1, 3) := by decide +kernel
theorem dX3_digest_94 : decode cX3_digest 94 = .ok (.goto (-46), 3) := by decide +kernel
theorem dX3_digest_97 : decode cX3_digest 97 = .ok (.iconst 0, 1) := by decide +kernel
theorem dX3_digest_98 : decode cX3_digest 98 = .ok (.istore 4, 2) := by decide +kernel
theorem dX3_digest_100 : decode cX3_digest 100 = .ok (.iload 4, 2) := by decide +kernel
theorem dX3_digest_102 : decode cX3_digest 102 = .ok (.bipush 32, 2) := by decide +kernel
theorem dX3_digest_104 : decode cX3_digest 104 = .ok (.if_icmp .ge 26, 3) := by decide +kernel
theorem dX3_digest_107 : decode cX3_digest 107 = .ok (.lload_n 1, 1) := by decide +kernel
theorem dX3_digest_108 : decode cX3_digest 108 = .ok (.ldc2_w 107, 3) := by decide +kernel
theorem dX3_digest_111 : decode cX3_digest 111 = .ok (.lmul, 1) := by decide +kernel
theorem dX3_digest_112 : decode cX3_digest 112 = .ok (.aload_n 0, 1) := by decide +kernel
theorem dX3_digest_113 : decode cX3_digest 113 = .ok (.getfield 12, 3) := by decide +kernel
theorem dX3_digest_116 : decode cX3_digest 116 = .ok (.iload 4, 2) := by decide +kernel
theorem dX3_digest_118 : decode cX3_digest 118 = .ok (.invokevirtual 64, 3) := by decide +kernel
theorem dX3_digest_121 : decode cX3_digest 121 = .ok (.i2l, 1) := by decide +kernel
theorem dX3_digest_122 : decode cX3_digest 122 = .ok (.ladd, 1) := by decide +kernel
theorem dX3_digest_123 : decode cX3_digest 123 = .ok (.lstore_n 1, 1) := by decide +kernel
theorem dX3_digest_124 : decode cX3_digest 124 = .ok (.iinc 4 1, 3) := by decide +kernel
theorem dX3_digest_127 : decode cX3_digest 127 = .ok (.goto (-27), 3) := by decide +kernel
theorem dX3_digest_130 : decode cX3_digest 130 = .ok (.lload_n 1, 1) := by decide +kernel
theorem dX3_digest_131 : decode cX3_digest 131 = .ok (.lreturn, 1) := by decide +kernel
theorem dX3_requireIndex_0 : decode cX3_requireIndex 0 = .ok (.iload_n 0, 1) := by decide +kernel
theorem dX3_requireIndex_1 : decode cX3_requireIndex 1 = .ok (.ifCond .lt 8, 3) := by decide +kernel
theorem dX3_requireIndex_4 : decode cX3_requireIndex 4 = .ok (.iload_n 0, 1) := by decide +kernel
theorem dX3_requireIndex_5 : decode cX3_requireIndex 5 = .ok (.iload_n 1, 1) := by decide +kernel
theorem dX3_requireIndex_6 : decode cX3_requireIndex 6 = .ok (.if_icmp .lt 13, 3) := by decide +kernel
theorem dX3_requireIndex_9 : decode cX3_requireIndex 9 = .ok (.new 109, 3) := by decide +kernel
theorem dX3_requireIndex_12 : decode cX3_requireIndex 12 = .ok (.dup, 1) := by decide +kernel
theorem dX3_requireIndex_13 : decode cX3_requireIndex 13 = .ok (.ldc 111, 2) := by decide +kernel
theorem dX3_requireIndex_15 : decode cX3_requireIndex 15 = .ok (.invokespecial 113, 3) := by decide +kernel
theorem dX3_requireIndex_18 : decode cX3_requireIndex 18 = .ok (.athrow, 1) := by decide +kernel
theorem dX3_requireIndex_19 : decode cX3_requireIndex 19 = .ok (.return_, 1) := by decide +kernel
set_option maxRecDepth 20000 in
theorem ggX3_requireRow_X3_requireIndex : GoodIn wsX3_requireRow wsX3_requireIndex := goodIn_ca (goodIn_r _ [6, 7, 8] (by decide +kernel) (by decide +kernel)) (goodIn_sub (fun _ h => List.mem_cons_of_mem _ (List.mem_append_right _ h)) (by decide +kernel))
set_option maxRecDepth 20000 in
theorem gX3_requireRow_X3_requireIndex : GoodIn wsX3_requireRow (va_wsS RX3 19 yX3_requireIndex wsX3_requireIndex) := goodIn_app (goodIn_of _ (by decide +kernel)) ggX3_requireRow_X3_requireIndex
theorem dX3_requireRow_0 : decode cX3_requireRow 0 = .ok (.iload_n 0, 1) := by decide +kernel
theorem dX3_requireRow_1 : decode cX3_requireRow 1 = .ok (.bipush 32, 2) := by decide +kernel
theorem dX3_requireRow_3 : decode cX3_requireRow 3 = .ok (.invokestatic 19, 3) := by decide +kernel
theorem dX3_requireRow_6 : decode cX3_requireRow 6 = .ok (.iload_n 1, 1) := by decide +kernel
theorem dX3_requireRow_7 : decode cX3_requireRow 7 = .ok (.ifCond .lt 9, 3) := by decide +kernel
theorem dX3_requireRow_10 : decode cX3_requireRow 10 = .ok (.iload_n 1, 1) := by decide +kernel
theorem dX3_requireRow_11 : decode cX3_requireRow 11 = .ok (.bipush 32, 2) := by decide +kernel
theorem dX3_requireRow_13 : decode cX3_requireRow 13 = .ok (.if_icmp .lt 13, 3) := by decide +kernel
theorem dX3_requireRow_16 : decode cX3_requireRow 16 = .ok (.new 35, 3) := by decide +kernel
theorem dX3_requireRow_19 : decode cX3_requireRow 19 = .ok (.dup, 1) := by decide +kernel
theorem dX3_requireRow_20 : decode cX3_requireRow 20 = .ok (.ldc 114, 2) := by decide +kernel
theorem dX3_requireRow_22 : decode cX3_requireRow 22 = .ok (.invokespecial 39, 3) := by decide +kernel
theorem dX3_requireRow_25 : decode cX3_requireRow 25 = .ok (.athrow, 1) := by decide +kernel
theorem dX3_requireRow_26 : decode cX3_requireRow 26 = .ok (.iload_n 2, 1) := by decide +kernel
theorem dX3_requireRow_27 : decode cX3_requireRow 27 = .ok (.iconst 1, 1) := by decide +kernel
theorem dX3_requireRow_28 : decode cX3_requireRow 28 = .ok (.if_icmp .lt 9, 3) := by decide +kernel
theorem dX3_requireRow_31 : decode cX3_requireRow 31 = .ok (.iload_n 2, 1) := by decide +kernel
theorem dX3_requireRow_32 : decode cX3_requireRow 32 = .ok (.bipush 40, 2) := by decide +kernel
theorem dX3_requireRow_34 : decode cX3_requireRow 34 = .ok (.if_icmp .le 13, 3) := by decide +kernel
theorem dX3_requireRow_37 : decode cX3_requireRow 37 = .ok (.new 35, 3) := by decide +kernel
theorem dX3_requireRow_40 : decode cX3_requireRow 40 = .ok (.dup, 1) := by decide +kernel
theorem dX3_requireRow_41 : decode cX3_requireRow 41 = .ok (.ldc 116, 2) := by decide +kernel
theorem dX3_requireRow_43 : decode cX3_requireRow 43 = .ok (.invokespecial 39, 3) := by decide +kernel
theorem dX3_requireRow_46 : decode cX3_requireRow 46 = .ok (.athrow, 1) := by decide +kernel
theorem dX3_requireRow_47 : decode cX3_requireRow 47 = .ok (.return_, 1) := by decide +kernel
theorem dX3_at_0 : decode cX3_at 0 = .ok (.iload_n 1, 1) := by decide +kernel
theorem dX3_at_1 : decode cX3_at 1 = .ok (.ifCond .lt 15, 3) := by decide +kernel
theorem dX3_at_4 : decode cX3_at 4 = .ok (.iload_n 1, 1) := by decide +kernel
theorem dX3_at_5 : decode cX3_at 5 = .ok (.aload_n 0, 1) := by decide +kernel
theorem dX3_at_6 : decode cX3_at 6 = .ok (.arraylength, 1) := by decide +kernel
theorem dX3_at_7 : decode cX3_at 7 = .ok (.if_icmp .ge 9, 3) := by decide +kernel
theorem dX3_at_10 : decode cX3_at 10 = .ok (.aload_n 0, 1) := by decide +kernel
theorem dX3_at_11 : decode cX3_at 11 = .ok (.iload_n 1, 1) := by decide +kernel
theorem dX3_at_12 : decode cX3_at 12 = .ok (.iaload, 1) := by decide +kernel
theorem dX3_at_13 : decode cX3_at 13 = .ok (.goto 4, 3) := by decide +kernel
theorem dX3_at_16 : decode cX3_at 16 = .ok (.iconst (-1), 1) := by decide +kernel
theorem dX3_at_17 : decode cX3_at 17 = .ok (.ireturn, 1) := by decide +kernel
theorem dX3_put_0 : decode cX3_put 0 = .ok (.iload_n 1, 1) := by decide +kernel
theorem dX3_put_1 : decode cX3_put 1 = .ok (.ifCond .lt 13, 3) := by decide +kernel
theorem dX3_put_4 : decode cX3_put 4 = .ok (.iload_n 1, 1) := by decide +kernel
theorem dX3_put_5 : decode cX3_put 5 = .ok (.aload_n 0, 1) := by decide +kernel
theorem dX3_put_6 : decode cX3_put 6 = .ok (.arraylength, 1) := by decide +kernel
theorem dX3_put_7 : decode cX3_put 7 = .ok (.if_icmp .ge 7, 3) := by decide +kernel
theorem dX3_put_10 : decode cX3_put 10 = .ok (.aload_n 0, 1) := by decide +kernel
theorem dX3_put_11 : decode cX3_put 11 = .ok (.iload_n 1, 1) := by decide +kernel
theorem dX3_put_12 : decode cX3_put 12 = .ok (.iload_n 2, 1) := by decide +kernel
theorem dX3_put_13 : decode cX3_put 13 = .ok (.iastore, 1) := by decide +kernel
theorem dX3_put_14 : decode cX3_put 14 = .ok (.return_, 1) := by decide +kernel
theorem dJ9_max_7cf53_0 : decode cJ9_max_7cf53 0 = .ok (.iload_n 0, 1) := by decide +kernel
theorem dJ9_max_7cf53_1 : decode cJ9_max_7cf53 1 = .ok (.iload_n 1, 1) := by decide +kernel
theorem dJ9_max_7cf53_2 : decode cJ9_max_7cf53 2 = .ok (.if_icmp .lt 7, 3) := by decide +kernel
theorem dJ9_max_7cf53_5 : decode cJ9_max_7cf53 5 = .ok (.iload_n 0, 1) := by decide +kernel
theorem dJ9_max_7cf53_6 : decode cJ9_max_7cf53 6 = .ok (.goto 4, 3) := by decide +kernel
theorem dJ9_max_7cf53_9 : decode cJ9_max_7cf53 9 = .ok (.iload_n 1, 1) := by decide +kernel
theorem dJ9_max_7cf53_10 : decode cJ9_max_7cf53 10 = .ok (.ireturn, 1) := by decide +kernel
theorem dJ7_fill_53178_0 : decode cJ7_fill_53178 0 = .ok (.iconst 0, 1) := by decide +kernel
theorem dJ7_fill_53178_1 : decode cJ7_fill_53178 1 = .ok (.istore_n 2, 1) := by decide +kernel
theorem dJ7_fill_53178_2 : decode cJ7_fill_53178 2 = .ok (.aload_n 0, 1) := by decide +kernel
theorem dJ7_fill_53178_3 : decode cJ7_fill_53178 3 = .ok (.arraylength, 1) := by decide +kernel
theorem dJ7_fill_53178_4 : decode cJ7_fill_53178 4 = .ok (.istore_n 3, 1) := by decide +kernel
theorem dJ7_fill_53178_5 : decode cJ7_fill_53178 5 = .ok (.iload_n 2, 1) := by decide +kernel
theorem dJ7_fill_53178_6 : decode cJ7_fill_53178 6 = .ok (.iload_n 3, 1) := by decide +kernel
theorem dJ7_fill_53178_7 : decode cJ7_fill_53178 7 = .ok (.if_icmp .ge 13, 3) := by decide +kernel
theorem dJ7_fill_53178_10 : decode cJ7_fill_53178 10 = .ok (.aload_n 0, 1) := by decide +kernel
theorem dJ7_fill_53178_11 : decode cJ7_fill_53178 11 = .ok (.iload_n 2, 1) := by decide +kernel
theorem dJ7_fill_53178_12 : decode cJ7_fill_53178 12 = .ok (.iload_n 1, 1) := by decide +kernel
theorem dJ7_fill_53178_13 : decode cJ7_fill_53178 13 = .ok (.iastore, 1) := by decide +kernel
theorem dJ7_fill_53178_14 : decode cJ7_fill_53178 14 = .ok (.iinc 2 1, 3) := by decide +kernel
theorem dJ7_fill_53178_17 : decode cJ7_fill_53178 17 = .ok (.goto (-12), 3) := by decide +kernel
theorem dJ7_fill_53178_20 : decode cJ7_fill_53178 20 = .ok (.return_, 1) := by decide +kernel
