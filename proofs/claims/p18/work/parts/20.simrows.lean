theorem dX4_init_0 : decode cX4_init 0 = .ok (.aload_n 0, 1) := by decide +kernel
theorem dX4_init_1 : decode cX4_init 1 = .ok (.invokespecial 1, 3) := by decide +kernel
theorem dX4_init_4 : decode cX4_init 4 = .ok (.aload_n 0, 1) := by decide +kernel
theorem dX4_init_5 : decode cX4_init 5 = .ok (.iconst 1, 1) := by decide +kernel
theorem dX4_init_6 : decode cX4_init 6 = .ok (.newarray .int, 2) := by decide +kernel
theorem dX4_init_8 : decode cX4_init 8 = .ok (.dup, 1) := by decide +kernel
theorem dX4_init_9 : decode cX4_init 9 = .ok (.iconst 0, 1) := by decide +kernel
theorem dX4_init_10 : decode cX4_init 10 = .ok (.iconst 1, 1) := by decide +kernel
theorem dX4_init_11 : decode cX4_init 11 = .ok (.iastore, 1) := by decide +kernel
theorem dX4_init_12 : decode cX4_init 12 = .ok (.putfield 7, 3) := by decide +kernel
theorem dX4_init_15 : decode cX4_init 15 = .ok (.aload_n 0, 1) := by decide +kernel
theorem dX4_init_16 : decode cX4_init 16 = .ok (.iconst 1, 1) := by decide +kernel
theorem dX4_init_17 : decode cX4_init 17 = .ok (.newarray .int, 2) := by decide +kernel
theorem dX4_init_19 : decode cX4_init 19 = .ok (.dup, 1) := by decide +kernel
theorem dX4_init_20 : decode cX4_init 20 = .ok (.iconst 0, 1) := by decide +kernel
theorem dX4_init_21 : decode cX4_init 21 = .ok (.bipush 32, 2) := by decide +kernel
theorem dX4_init_23 : decode cX4_init 23 = .ok (.iastore, 1) := by decide +kernel
theorem dX4_init_24 : decode cX4_init 24 = .ok (.putfield 13, 3) := by decide +kernel
theorem dX4_init_27 : decode cX4_init 27 = .ok (.aload_n 0, 1) := by decide +kernel
theorem dX4_init_28 : decode cX4_init 28 = .ok (.iconst 1, 1) := by decide +kernel
theorem dX4_init_29 : decode cX4_init 29 = .ok (.newarray .int, 2) := by decide +kernel
theorem dX4_init_31 : decode cX4_init 31 = .ok (.dup, 1) := by decide +kernel
theorem dX4_init_32 : decode cX4_init 32 = .ok (.iconst 0, 1) := by decide +kernel
theorem dX4_init_33 : decode cX4_init 33 = .ok (.iconst (-1), 1) := by decide +kernel
theorem dX4_init_34 : decode cX4_init 34 = .ok (.iastore, 1) := by decide +kernel
theorem dX4_init_35 : decode cX4_init 35 = .ok (.putfield 16, 3) := by decide +kernel
theorem dX4_init_38 : decode cX4_init 38 = .ok (.aload_n 0, 1) := by decide +kernel
theorem dX4_init_39 : decode cX4_init 39 = .ok (.iconst 1, 1) := by decide +kernel
theorem dX4_init_40 : decode cX4_init 40 = .ok (.anewarray 19, 3) := by decide +kernel
theorem dX4_init_43 : decode cX4_init 43 = .ok (.dup, 1) := by decide +kernel
theorem dX4_init_44 : decode cX4_init 44 = .ok (.iconst 0, 1) := by decide +kernel
theorem dX4_init_45 : decode cX4_init 45 = .ok (.iconst 0, 1) := by decide +kernel
theorem dX4_init_46 : decode cX4_init 46 = .ok (.newarray .int, 2) := by decide +kernel
theorem dX4_init_48 : decode cX4_init 48 = .ok (.aastore, 1) := by decide +kernel
theorem dX4_init_49 : decode cX4_init 49 = .ok (.putfield 20, 3) := by decide +kernel
theorem dX4_init_52 : decode cX4_init 52 = .ok (.aload_n 0, 1) := by decide +kernel
theorem dX4_init_53 : decode cX4_init 53 = .ok (.iconst 1, 1) := by decide +kernel
theorem dX4_init_54 : decode cX4_init 54 = .ok (.newarray .int, 2) := by decide +kernel
theorem dX4_init_56 : decode cX4_init 56 = .ok (.dup, 1) := by decide +kernel
theorem dX4_init_57 : decode cX4_init 57 = .ok (.iconst 0, 1) := by decide +kernel
theorem dX4_init_58 : decode cX4_init 58 = .ok (.iconst 0, 1) := by decide +kernel
theorem dX4_init_59 : decode cX4_init 59 = .ok (.iastore, 1) := by decide +kernel
theorem dX4_init_60 : decode cX4_init 60 = .ok (.putfield 24, 3) := by decide +kernel
theorem dX4_init_63 : decode cX4_init 63 = .ok (.aload_n 0, 1) := by decide +kernel
theorem dX4_init_64 : decode cX4_init 64 = .ok (.bipush 64, 2) := by decide +kernel
theorem dX4_init_66 : decode cX4_init 66 = .ok (.putfield 27, 3) := by decide +kernel
theorem dX4_init_69 : decode cX4_init 69 = .ok (.return_, 1) := by decide +kernel
theorem dX4_more_0 : decode cX4_more 0 = .ok (.aload_n 0, 1) := by decide +kernel
theorem dX4_more_1 : decode cX4_more 1 = .ok (.arraylength, 1) := by decide +kernel
theorem dX4_more_2 : decode cX4_more 2 = .ok (.aload_n 1, 1) := by decide +kernel
theorem dX4_more_3 : decode cX4_more 3 = .ok (.arraylength, 1) := by decide +kernel
theorem dX4_more_4 : decode cX4_more 4 = .ok (.iadd, 1) := by decide +kernel
theorem dX4_more_5 : decode cX4_more 5 = .ok (.newarray .int, 2) := by decide +kernel
theorem dX4_more_7 : decode cX4_more 7 = .ok (.astore_n 2, 1) := by decide +kernel
theorem dX4_more_8 : decode cX4_more 8 = .ok (.iconst 0, 1) := by decide +kernel
theorem dX4_more_9 : decode cX4_more 9 = .ok (.istore_n 3, 1) := by decide +kernel
theorem dX4_more_10 : decode cX4_more 10 = .ok (.iload_n 3, 1) := by decide +kernel
theorem dX4_more_11 : decode cX4_more 11 = .ok (.aload_n 2, 1) := by decide +kernel
theorem dX4_more_12 : decode cX4_more 12 = .ok (.arraylength, 1) := by decide +kernel
theorem dX4_more_13 : decode cX4_more 13 = .ok (.if_icmp .ge 30, 3) := by decide +kernel
theorem dX4_more_16 : decode cX4_more 16 = .ok (.aload_n 2, 1) := by decide +kernel
theorem dX4_more_17 : decode cX4_more 17 = .ok (.iload_n 3, 1) := by decide +kernel
theorem dX4_more_18 : decode cX4_more 18 = .ok (.iload_n 3, 1) := by decide +kernel
theorem dX4_more_19 : decode cX4_more 19 = .ok (.aload_n 0, 1) := by decide +kernel
theorem dX4_more_20 : decode cX4_more 20 = .ok (.arraylength, 1) := by decide +kernel
theorem dX4_more_21 : decode cX4_more 21 = .ok (.if_icmp .ge 9, 3) := by decide +kernel
theorem dX4_more_24 : decode cX4_more 24 = .ok (.aload_n 0, 1) := by decide +kernel
theorem dX4_more_25 : decode cX4_more 25 = .ok (.iload_n 3, 1) := by decide +kernel
theorem dX4_more_26 : decode cX4_more 26 = .ok (.iaload, 1) := by decide +kernel
theorem dX4_more_27 : decode cX4_more 27 = .ok (.goto 9, 3) := by decide +kernel
theorem dX4_more_30 : decode cX4_more 30 = .ok (.aload_n 1, 1) := by decide +kernel
theorem dX4_more_31 : decode cX4_more 31 = .ok (.iload_n 3, 1) := by decide +kernel
theorem dX4_more_32 : decode cX4_more 32 = .ok (.aload_n 0, 1) := by decide +kernel
theorem dX4_more_33 : decode cX4_more 33 = .ok (.arraylength, 1) := by decide +kernel
theorem dX4_more_34 : decode cX4_more 34 = .ok (.isub, 1) := by decide +kernel
theorem dX4_more_35 : decode cX4_more 35 = .ok (.iaload, 1) := by decide +kernel
theorem dX4_more_36 : decode cX4_more 36 = .ok (.iastore, 1) := by decide +kernel
theorem dX4_more_37 : decode cX4_more 37 = .ok (.iinc 3 1, 3) := by decide +kernel
theorem dX4_more_40 : decode cX4_more 40 = .ok (.goto (-30), 3) := by decide +kernel
theorem dX4_more_43 : decode cX4_more 43 = .ok (.aload_n 2, 1) := by decide +kernel
theorem dX4_more_44 : decode cX4_more 44 = .ok (.areturn, 1) := by decide +kernel
theorem dX4_more__0 : decode cX4_more_ 0 = .ok (.aload_n 0, 1) := by decide +kernel
theorem dX4_more__1 : decode cX4_more_ 1 = .ok (.arraylength, 1) := by decide +kernel
theorem dX4_more__2 : decode cX4_more_ 2 = .ok (.iconst 1, 1) := by decide +kernel
theorem dX4_more__3 : decode cX4_more_ 3 = .ok (.iadd, 1) := by decide +kernel
theorem dX4_more__4 : decode cX4_more_ 4 = .ok (.anewarray 19, 3) := by decide +kernel
theorem dX4_more__7 : decode cX4_more_ 7 = .ok (.astore_n 2, 1) := by decide +kernel
theorem dX4_more__8 : decode cX4_more_ 8 = .ok (.iconst 0, 1) := by decide +kernel
theorem dX4_more__9 : decode cX4_more_ 9 = .ok (.istore_n 3, 1) := by decide +kernel
theorem dX4_more__10 : decode cX4_more_ 10 = .ok (.iload_n 3, 1) := by decide +kernel
theorem dX4_more__11 : decode cX4_more_ 11 = .ok (.aload_n 0, 1) := by decide +kernel
theorem dX4_more__12 : decode cX4_more_ 12 = .ok (.arraylength, 1) := by decide +kernel
theorem dX4_more__13 : decode cX4_more_ 13 = .ok (.if_icmp .ge 15, 3) := by decide +kernel
theorem dX4_more__16 : decode cX4_more_ 16 = .ok (.aload_n 2, 1) := by decide +kernel
theorem dX4_more__17 : decode cX4_more_ 17 = .ok (.iload_n 3, 1) := by decide +kernel
theorem dX4_more__18 : decode cX4_more_ 18 = .ok (.aload_n 0, 1) := by decide +kernel
theorem dX4_more__19 : decode cX4_more_ 19 = .ok (.iload_n 3, 1) := by decide +kernel
theorem dX4_more__20 : decode cX4_more_ 20 = .ok (.aaload, 1) := by decide +kernel
theorem dX4_more__21 : decode cX4_more_ 21 = .ok (.aastore, 1) := by decide +kernel
theorem dX4_more__22 : decode cX4_more_ 22 = .ok (.iinc 3 1, 3) := by decide +kernel
theorem dX4_more__25 : decode cX4_more_ 25 = .ok (.goto (-15), 3) := by decide +kernel
theorem dX4_more__28 : decode cX4_more_ 28 = .ok (.aload_n 2, 1) := by decide +kernel
theorem dX4_more__29 : decode cX4_more_ 29 = .ok (.aload_n 0, 1) := by decide +kernel
theorem dX4_more__30 : decode cX4_more_ 30 = .ok (.arraylength, 1) := by decide +kernel
theorem dX4_more__31 : decode cX4_more_ 31 = .ok (.aload_n 1, 1) := by decide +kernel
theorem dX4_more__32 : decode cX4_more_ 32 = .ok (.aastore, 1) := by decide +kernel
theorem dX4_more__33 : decode cX4_more_ 33 = .ok (.aload_n 2, 1) := by decide +kernel
theorem dX4_more__34 : decode cX4_more_ 34 = .ok (.areturn, 1) := by decide +kernel
theorem dX4_leaf_0 : decode cX4_leaf 0 = .ok (.aload_n 0, 1) := by decide +kernel
theorem dX4_leaf_1 : decode cX4_leaf 1 = .ok (.getfield 24, 3) := by decide +kernel
theorem dX4_leaf_4 : decode cX4_leaf 4 = .ok (.astore_n 2, 1) := by decide +kernel
theorem dX4_leaf_5 : decode cX4_leaf 5 = .ok (.aload_n 2, 1) := by decide +kernel
theorem dX4_leaf_6 : decode cX4_leaf 6 = .ok (.arraylength, 1) := by decide +kernel
theorem dX4_leaf_7 : decode cX4_leaf 7 = .ok (.istore_n 3, 1) := by decide +kernel
theorem dX4_leaf_8 : decode cX4_leaf 8 = .ok (.iconst 0, 1) := by decide +kernel
theorem dX4_leaf_9 : decode cX4_leaf 9 = .ok (.istore 4, 2) := by decide +kernel
theorem dX4_leaf_11 : decode cX4_leaf 11 = .ok (.iload 4, 2) := by decide +kernel
theorem dX4_leaf_13 : decode cX4_leaf 13 = .ok (.iload_n 3, 1) := by decide +kernel
theorem dX4_leaf_14 : decode cX4_leaf 14 = .ok (.if_icmp .ge 29, 3) := by decide +kernel
theorem dX4_leaf_17 : decode cX4_leaf 17 = .ok (.aload_n 2, 1) := by decide +kernel
theorem dX4_leaf_18 : decode cX4_leaf 18 = .ok (.iload 4, 2) := by decide +kernel
theorem dX4_leaf_20 : decode cX4_leaf 20 = .ok (.iaload, 1) := by decide +kernel
theorem dX4_leaf_21 : decode cX4_leaf 21 = .ok (.istore 5, 2) := by decide +kernel
theorem dX4_leaf_23 : decode cX4_leaf 23 = .ok (.aload_n 0, 1) := by decide +kernel
theorem dX4_leaf_24 : decode cX4_leaf 24 = .ok (.getfield 13, 3) := by decide +kernel
theorem dX4_leaf_27 : decode cX4_leaf 27 = .ok (.iload 5, 2) := by decide +kernel
theorem dX4_leaf_29 : decode cX4_leaf 29 = .ok (.iaload, 1) := by decide +kernel
theorem dX4_leaf_30 : decode cX4_leaf 30 = .ok (.iload_n 1, 1) := by decide +kernel
theorem dX4_leaf_31 : decode cX4_leaf 31 = .ok (.if_icmp .ne 6, 3) := by decide +kernel
theorem dX4_leaf_34 : decode cX4_leaf 34 = .ok (.iload 5, 2) := by decide +kernel
theorem dX4_leaf_36 : decode cX4_leaf 36 = .ok (.ireturn, 1) := by decide +kernel
theorem dX4_leaf_37 : decode cX4_leaf 37 = .ok (.iinc 4 1, 3) := by decide +kernel
theorem dX4_leaf_40 : decode cX4_leaf 40 = .ok (.goto (-29), 3) := by decide +kernel
theorem dX4_leaf_43 : decode cX4_leaf 43 = .ok (.iconst (-1), 1) := by decide +kernel
theorem dX4_leaf_44 : decode cX4_leaf 44 = .ok (.ireturn, 1) := by decide +kernel
theorem dX4_place_0 : decode cX4_place 0 = .ok (.iconst 0, 1) := by decide +kernel
theorem dX4_place_1 : decode cX4_place 1 = .ok (.istore_n 2, 1) := by decide +kernel
theorem dX4_place_2 : decode cX4_place 2 = .ok (.iload_n 2, 1) := by decide +kernel
theorem dX4_place_3 : decode cX4_place 3 = .ok (.aload_n 0, 1) := by decide +kernel
theorem dX4_place_4 : decode cX4_place 4 = .ok (.getfield 24, 3) := by decide +kernel
theorem dX4_place_7 : decode cX4_place 7 = .ok (.arraylength, 1) := by decide +kernel
theorem dX4_place_8 : decode cX4_place 8 = .ok (.if_icmp .ge 21, 3) := by decide +kernel
theorem dX4_place_11 : decode cX4_place 11 = .ok (.aload_n 0, 1) := by decide +kernel
theorem dX4_place_12 : decode cX4_place 12 = .ok (.getfield 24, 3) := by decide +kernel
theorem dX4_place_15 : decode cX4_place 15 = .ok (.iload_n 2, 1) := by decide +kernel
theorem dX4_place_16 : decode cX4_place 16 = .ok (.iaload, 1) := by decide +kernel
theorem dX4_place_17 : decode cX4_place 17 = .ok (.iload_n 1, 1) := by decide +kernel
theorem dX4_place_18 : decode cX4_place 18 = .ok (.if_icmp .ne 5, 3) := by decide +kernel
theorem dX4_place_21 : decode cX4_place 21 = .ok (.iload_n 2, 1) := by decide +kernel
theorem dX4_place_22 : decode cX4_place 22 = .ok (.ireturn, 1) := by decide +kernel
theorem dX4_place_23 : decode cX4_place 23 = .ok (.iinc 2 1, 3) := by decide +kernel
theorem dX4_place_26 : decode cX4_place 26 = .ok (.goto (-24), 3) := by decide +kernel
theorem dX4_place_29 : decode cX4_place 29 = .ok (.iconst (-1), 1) := by decide +kernel
theorem dX4_place_30 : decode cX4_place 30 = .ok (.ireturn, 1) := by decide +kernel
set_option maxRecDepth 20000 in
theorem ggX4_length_X4_length : GoodIn wsX4_length wsX4_length := goodIn_r _ [0, 1, 2, 3, 4, 5, 6, 7, 8, 9, 10, 11, 12, 13, 14, 15] (by decide +kernel) (by decide +kernel)
set_option maxRecDepth 20000 in
theorem gX4_length_X4_length : GoodIn wsX4_length (wsV RX4 48 RX4 yX4_length wsX4_length) := goodIn_app (goodIn_of _ (by decide +kernel)) ggX4_length_X4_length
theorem dX4_length_0 : decode cX4_length 0 = .ok (.aload_n 0, 1) := by decide +kernel
theorem dX4_length_1 : decode cX4_length 1 = .ok (.getfield 16, 3) := by decide +kernel
theorem dX4_length_4 : decode cX4_length 4 = .ok (.iload_n 1, 1) := by decide +kernel
theorem dX4_length_5 : decode cX4_length 5 = .ok (.iaload, 1) := by decide +kernel
theorem dX4_length_6 : decode cX4_length 6 = .ok (.ifCond .ge 7, 3) := by decide +kernel
theorem dX4_length_9 : decode cX4_length 9 = .ok (.iconst 0, 1) := by decide +kernel
theorem dX4_length_10 : decode cX4_length 10 = .ok (.goto 15, 3) := by decide +kernel
theorem dX4_length_13 : decode cX4_length 13 = .ok (.iconst 1, 1) := by decide +kernel
theorem dX4_length_14 : decode cX4_length 14 = .ok (.aload_n 0, 1) := by decide +kernel
theorem dX4_length_15 : decode cX4_length 15 = .ok (.aload_n 0, 1) := by decide +kernel
theorem dX4_length_16 : decode cX4_length 16 = .ok (.getfield 16, 3) := by decide +kernel
theorem dX4_length_19 : decode cX4_length 19 = .ok (.iload_n 1, 1) := by decide +kernel
theorem dX4_length_20 : decode cX4_length 20 = .ok (.iaload, 1) := by decide +kernel
theorem dX4_length_21 : decode cX4_length 21 = .ok (.invokevirtual 48, 3) := by decide +kernel
theorem dX4_length_24 : decode cX4_length 24 = .ok (.iadd, 1) := by decide +kernel
theorem dX4_length_25 : decode cX4_length 25 = .ok (.ireturn, 1) := by decide +kernel
set_option maxRecDepth 20000 in
theorem ggX4_code_X4_code : GoodIn wsX4_code wsX4_code := goodIn_r _ [0, 1, 2, 3, 4, 5, 6, 7, 8, 9, 10, 11, 12, 13, 14, 15, 16] (by decide +kernel) (by decide +kernel)
set_option maxRecDepth 20000 in
theorem gX4_code_X4_code : GoodIn wsX4_code (wsV RX4 52 RX4 yX4_code wsX4_code) := goodIn_app (goodIn_of _ (by decide +kernel)) ggX4_code_X4_code
theorem dX4_code_0 : decode cX4_code 0 = .ok (.aload_n 0, 1) := by decide +kernel
theorem dX4_code_1 : decode cX4_code 1 = .ok (.getfield 16, 3) := by decide +kernel
theorem dX4_code_4 : decode cX4_code 4 = .ok (.iload_n 1, 1) := by decide +kernel
theorem dX4_code_5 : decode cX4_code 5 = .ok (.iaload, 1) := by decide +kernel
theorem dX4_code_6 : decode cX4_code 6 = .ok (.ifCond .ge 7, 3) := by decide +kernel
theorem dX4_code_9 : decode cX4_code 9 = .ok (.iconst 0, 1) := by decide +kernel
theorem dX4_code_10 : decode cX4_code 10 = .ok (.goto 38, 3) := by decide +kernel
theorem dX4_code_13 : decode cX4_code 13 = .ok (.iconst 2, 1) := by decide +kernel
theorem dX4_code_14 : decode cX4_code 14 = .ok (.aload_n 0, 1) := by decide +kernel
theorem dX4_code_15 : decode cX4_code 15 = .ok (.aload_n 0, 1) := by decide +kernel
theorem dX4_code_16 : decode cX4_code 16 = .ok (.getfield 16, 3) := by decide +kernel
theorem dX4_code_19 : decode cX4_code 19 = .ok (.iload_n 1, 1) := by decide +kernel
theorem dX4_code_20 : decode cX4_code 20 = .ok (.iaload, 1) := by decide +kernel
theorem dX4_code_21 : decode cX4_code 21 = .ok (.invokevirtual 52, 3) := by decide +kernel
theorem dX4_code_24 : decode cX4_code 24 = .ok (.imul, 1) := by decide +kernel
theorem dX4_code_25 : decode cX4_code 25 = .ok (.aload_n 0, 1) := by decide +kernel
theorem dX4_code_26 : decode cX4_code 26 = .ok (.getfield 20, 3) := by decide +kernel
theorem dX4_code_29 : decode cX4_code 29 = .ok (.aload_n 0, 1) := by decide +kernel
theorem dX4_code_30 : decode cX4_code 30 = .ok (.getfield 16, 3) := by decide +kernel
theorem dX4_code_33 : decode cX4_code 33 = .ok (.iload_n 1, 1) := by decide +kernel
theorem dX4_code_34 : decode cX4_code 34 = .ok (.iaload, 1) := by decide +kernel
theorem dX4_code_35 : decode cX4_code 35 = .ok (.aaload, 1) := by decide +kernel
theorem dX4_code_36 : decode cX4_code 36 = .ok (.iconst 1, 1) := by decide +kernel
theorem dX4_code_37 : decode cX4_code 37 = .ok (.iaload, 1) := by decide +kernel
theorem dX4_code_38 : decode cX4_code 38 = .ok (.iload_n 1, 1) := by decide +kernel
theorem dX4_code_39 : decode cX4_code 39 = .ok (.if_icmp .ne 7, 3) := by decide +kernel
theorem dX4_code_42 : decode cX4_code 42 = .ok (.iconst 1, 1) := by decide +kernel
theorem dX4_code_43 : decode cX4_code 43 = .ok (.goto 4, 3) := by decide +kernel
theorem dX4_code_46 : decode cX4_code 46 = .ok (.iconst 0, 1) := by decide +kernel
theorem dX4_code_47 : decode cX4_code 47 = .ok (.iadd, 1) := by decide +kernel
theorem dX4_code_48 : decode cX4_code 48 = .ok (.ireturn, 1) := by decide +kernel
set_option maxRecDepth 20000 in
theorem ggX4_takes_X4_leaf : GoodIn wsX4_takes wsX4_leaf := goodIn_r _ [5, 6, 7, 13, 14, 15, 16, 17, 18, 19, 20, 21, 22] (by decide +kernel) (by decide +kernel)
set_option maxRecDepth 20000 in
theorem gX4_takes_X4_leaf : GoodIn wsX4_takes (wsV RX4 55 RX4 yX4_leaf wsX4_leaf) := goodIn_app (goodIn_of _ (by decide +kernel)) ggX4_takes_X4_leaf
set_option maxRecDepth 20000 in
theorem ggX4_takes_X4_length : GoodIn wsX4_takes wsX4_length := goodIn_r _ [11, 12, 8, 9, 10, 4, 13, 14, 15, 16, 17, 18, 19, 20, 21, 22] (by decide +kernel) (by decide +kernel)
set_option maxRecDepth 20000 in
theorem gX4_takes_X4_length : GoodIn wsX4_takes (wsV RX4 48 RX4 yX4_length wsX4_length) := goodIn_app (goodIn_of _ (by decide +kernel)) ggX4_takes_X4_length
theorem dX4_takes_0 : decode cX4_takes 0 = .ok (.aload_n 0, 1) := by decide +kernel
theorem dX4_takes_1 : decode cX4_takes 1 = .ok (.iload_n 1, 1) := by decide +kernel
theorem dX4_takes_2 : decode cX4_takes 2 = .ok (.invokevirtual 55, 3) := by decide +kernel
theorem dX4_takes_5 : decode cX4_takes 5 = .ok (.ifCond .ge 18, 3) := by decide +kernel
theorem dX4_takes_8 : decode cX4_takes 8 = .ok (.aload_n 0, 1) := by decide +kernel
theorem dX4_takes_9 : decode cX4_takes 9 = .ok (.aload_n 0, 1) := by decide +kernel
theorem dX4_takes_10 : decode cX4_takes 10 = .ok (.bipush 32, 2) := by decide +kernel
theorem dX4_takes_12 : decode cX4_takes 12 = .ok (.invokevirtual 55, 3) := by decide +kernel
theorem dX4_takes_15 : decode cX4_takes 15 = .ok (.invokevirtual 48, 3) := by decide +kernel
theorem dX4_takes_18 : decode cX4_takes 18 = .ok (.iconst 5, 1) := by decide +kernel
theorem dX4_takes_19 : decode cX4_takes 19 = .ok (.iadd, 1) := by decide +kernel
theorem dX4_takes_20 : decode cX4_takes 20 = .ok (.goto 12, 3) := by decide +kernel
theorem dX4_takes_23 : decode cX4_takes 23 = .ok (.aload_n 0, 1) := by decide +kernel
theorem dX4_takes_24 : decode cX4_takes 24 = .ok (.aload_n 0, 1) := by decide +kernel
theorem dX4_takes_25 : decode cX4_takes 25 = .ok (.iload_n 1, 1) := by decide +kernel
theorem dX4_takes_26 : decode cX4_takes 26 = .ok (.invokevirtual 55, 3) := by decide +kernel
theorem dX4_takes_29 : decode cX4_takes 29 = .ok (.invokevirtual 48, 3) := by decide +kernel
theorem dX4_takes_32 : decode cX4_takes 32 = .ok (.ireturn, 1) := by decide +kernel
set_option maxRecDepth 20000 in
theorem ggX4_name_X4_more : GoodIn wsX4_name wsX4_more := goodIn_r _ [9, 2] (by decide +kernel) (by decide +kernel)
set_option maxRecDepth 20000 in
theorem gX4_name_X4_more : GoodIn wsX4_name (va_wsS RX4 58 yX4_more wsX4_more) := goodIn_app (goodIn_of _ (by decide +kernel)) ggX4_name_X4_more
set_option maxRecDepth 20000 in
theorem ggX4_name_X4_more_ : GoodIn wsX4_name wsX4_more_ := goodIn_r _ [12, 13] (by decide +kernel) (by decide +kernel)
set_option maxRecDepth 20000 in
theorem gX4_name_X4_more_ : GoodIn wsX4_name (va_wsS RX4 62 yX4_more_ wsX4_more_) := goodIn_app (goodIn_of _ (by decide +kernel)) ggX4_name_X4_more_
theorem dX4_name_0 : decode cX4_name 0 = .ok (.aload_n 0, 1) := by decide +kernel
theorem dX4_name_1 : decode cX4_name 1 = .ok (.aload_n 0, 1) := by decide +kernel
theorem dX4_name_2 : decode cX4_name 2 = .ok (.getfield 7, 3) := by decide +kernel
theorem dX4_name_5 : decode cX4_name 5 = .ok (.iconst 1, 1) := by decide +kernel
theorem dX4_name_6 : decode cX4_name 6 = .ok (.newarray .int, 2) := by decide +kernel
theorem dX4_name_8 : decode cX4_name 8 = .ok (.dup, 1) := by decide +kernel
theorem dX4_name_9 : decode cX4_name 9 = .ok (.iconst 0, 1) := by decide +kernel
theorem dX4_name_10 : decode cX4_name 10 = .ok (.iload_n 1, 1) := by decide +kernel
theorem dX4_name_11 : decode cX4_name 11 = .ok (.iastore, 1) := by decide +kernel
theorem dX4_name_12 : decode cX4_name 12 = .ok (.invokestatic 58, 3) := by decide +kernel
theorem dX4_name_15 : decode cX4_name 15 = .ok (.putfield 7, 3) := by decide +kernel
theorem dX4_name_18 : decode cX4_name 18 = .ok (.aload_n 0, 1) := by decide +kernel
theorem dX4_name_19 : decode cX4_name 19 = .ok (.aload_n 0, 1) := by decide +kernel
theorem dX4_name_20 : decode cX4_name 20 = .ok (.getfield 13, 3) := by decide +kernel
theorem dX4_name_23 : decode cX4_name 23 = .ok (.iconst 1, 1) := by decide +kernel
theorem dX4_name_24 : decode cX4_name 24 = .ok (.newarray .int, 2) := by decide +kernel
theorem dX4_name_26 : decode cX4_name 26 = .ok (.dup, 1) := by decide +kernel
theorem dX4_name_27 : decode cX4_name 27 = .ok (.iconst 0, 1) := by decide +kernel
theorem dX4_name_28 : decode cX4_name 28 = .ok (.iload_n 2, 1) := by decide +kernel
theorem dX4_name_29 : decode cX4_name 29 = .ok (.iastore, 1) := by decide +kernel
theorem dX4_name_30 : decode cX4_name 30 = .ok (.invokestatic 58, 3) := by decide +kernel
theorem dX4_name_33 : decode cX4_name 33 = .ok (.putfield 13, 3) := by decide +kernel
theorem dX4_name_36 : decode cX4_name 36 = .ok (.aload_n 0, 1) := by decide +kernel
theorem dX4_name_37 : decode cX4_name 37 = .ok (.aload_n 0, 1) := by decide +kernel
theorem dX4_name_38 : decode cX4_name 38 = .ok (.getfield 16, 3) := by decide +kernel
theorem dX4_name_41 : decode cX4_name 41 = .ok (.iconst 1, 1) := by decide +kernel
theorem dX4_name_42 : decode cX4_name 42 = .ok (.newarray .int, 2) := by decide +kernel
theorem dX4_name_44 : decode cX4_name 44 = .ok (.dup, 1) := by decide +kernel
theorem dX4_name_45 : decode cX4_name 45 = .ok (.iconst 0, 1) := by decide +kernel
theorem dX4_name_46 : decode cX4_name 46 = .ok (.iload_n 3, 1) := by decide +kernel
theorem dX4_name_47 : decode cX4_name 47 = .ok (.iastore, 1) := by decide +kernel
theorem dX4_name_48 : decode cX4_name 48 = .ok (.invokestatic 58, 3) := by decide +kernel
theorem dX4_name_51 : decode cX4_name 51 = .ok (.putfield 16, 3) := by decide +kernel
theorem dX4_name_54 : decode cX4_name 54 = .ok (.aload_n 0, 1) := by decide +kernel
theorem dX4_name_55 : decode cX4_name 55 = .ok (.aload_n 0, 1) := by decide +kernel
theorem dX4_name_56 : decode cX4_name 56 = .ok (.getfield 20, 3) := by decide +kernel
theorem dX4_name_59 : decode cX4_name 59 = .ok (.aload 4, 2) := by decide +kernel
theorem dX4_name_61 : decode cX4_name 61 = .ok (.invokestatic 62, 3) := by decide +kernel
theorem dX4_name_64 : decode cX4_name 64 = .ok (.putfield 20, 3) := by decide +kernel
theorem dX4_name_67 : decode cX4_name 67 = .ok (.aload_n 0, 1) := by decide +kernel
theorem dX4_name_68 : decode cX4_name 68 = .ok (.getfield 7, 3) := by decide +kernel
theorem dX4_name_71 : decode cX4_name 71 = .ok (.arraylength, 1) := by decide +kernel
theorem dX4_name_72 : decode cX4_name 72 = .ok (.iconst 1, 1) := by decide +kernel
theorem dX4_name_73 : decode cX4_name 73 = .ok (.isub, 1) := by decide +kernel
theorem dX4_name_74 : decode cX4_name 74 = .ok (.ireturn, 1) := by decide +kernel
set_option maxRecDepth 20000 in
theorem ggX4_change_X4_place : GoodIn wsX4_change wsX4_place := goodIn_r _ [9, 1, 10, 11, 12, 13, 14, 15, 16, 17, 18, 19] (by decide +kernel) (by decide +kernel)
set_option maxRecDepth 20000 in
theorem gX4_change_X4_place : GoodIn wsX4_change (wsV RX4 65 RX4 yX4_place wsX4_place) := goodIn_app (goodIn_of _ (by decide +kernel)) ggX4_change_X4_place
theorem dX4_change_0 : decode cX4_change 0 = .ok (.aload_n 0, 1) := by decide +kernel
theorem dX4_change_1 : decode cX4_change 1 = .ok (.iload_n 1, 1) := by decide +kernel
theorem dX4_change_2 : decode cX4_change 2 = .ok (.invokevirtual 65, 3) := by decide +kernel
theorem dX4_change_5 : decode cX4_change 5 = .ok (.istore_n 3, 1) := by decide +kernel
theorem dX4_change_6 : decode cX4_change 6 = .ok (.aload_n 0, 1) := by decide +kernel
theorem dX4_change_7 : decode cX4_change 7 = .ok (.iload_n 2, 1) := by decide +kernel
theorem dX4_change_8 : decode cX4_change 8 = .ok (.invokevirtual 65, 3) := by decide +kernel
theorem dX4_change_11 : decode cX4_change 11 = .ok (.istore 4, 2) := by decide +kernel
theorem dX4_change_13 : decode cX4_change 13 = .ok (.aload_n 0, 1) := by decide +kernel
theorem dX4_change_14 : decode cX4_change 14 = .ok (.getfield 24, 3) := by decide +kernel
theorem dX4_change_17 : decode cX4_change 17 = .ok (.iload_n 3, 1) := by decide +kernel
theorem dX4_change_18 : decode cX4_change 18 = .ok (.iload_n 2, 1) := by decide +kernel
theorem dX4_change_19 : decode cX4_change 19 = .ok (.iastore, 1) := by decide +kernel
theorem dX4_change_20 : decode cX4_change 20 = .ok (.aload_n 0, 1) := by decide +kernel
theorem dX4_change_21 : decode cX4_change 21 = .ok (.getfield 24, 3) := by decide +kernel
theorem dX4_change_24 : decode cX4_change 24 = .ok (.iload 4, 2) := by decide +kernel
theorem dX4_change_26 : decode cX4_change 26 = .ok (.iload_n 1, 1) := by decide +kernel
theorem dX4_change_27 : decode cX4_change 27 = .ok (.iastore, 1) := by decide +kernel
theorem dX4_change_28 : decode cX4_change 28 = .ok (.aload_n 0, 1) := by decide +kernel
theorem dX4_change_29 : decode cX4_change 29 = .ok (.getfield 16, 3) := by decide +kernel
theorem dX4_change_32 : decode cX4_change 32 = .ok (.iload_n 1, 1) := by decide +kernel
theorem dX4_change_33 : decode cX4_change 33 = .ok (.iaload, 1) := by decide +kernel
theorem dX4_change_34 : decode cX4_change 34 = .ok (.istore 5, 2) := by decide +kernel
theorem dX4_change_36 : decode cX4_change 36 = .ok (.aload_n 0, 1) := by decide +kernel
theorem dX4_change_37 : decode cX4_change 37 = .ok (.getfield 16, 3) := by decide +kernel
theorem dX4_change_40 : decode cX4_change 40 = .ok (.iload_n 2, 1) := by decide +kernel
theorem dX4_change_41 : decode cX4_change 41 = .ok (.iaload, 1) := by decide +kernel
theorem dX4_change_42 : decode cX4_change 42 = .ok (.istore 6, 2) := by decide +kernel
theorem dX4_change_44 : decode cX4_change 44 = .ok (.aload_n 0, 1) := by decide +kernel
theorem dX4_change_45 : decode cX4_change 45 = .ok (.getfield 20, 3) := by decide +kernel
theorem dX4_change_48 : decode cX4_change 48 = .ok (.iload 5, 2) := by decide +kernel
theorem dX4_change_50 : decode cX4_change 50 = .ok (.aaload, 1) := by decide +kernel
theorem dX4_change_51 : decode cX4_change 51 = .ok (.iconst 1, 1) := by decide +kernel
theorem dX4_change_52 : decode cX4_change 52 = .ok (.iaload, 1) := by decide +kernel
theorem dX4_change_53 : decode cX4_change 53 = .ok (.iload_n 1, 1) := by decide +kernel
theorem dX4_change_54 : decode cX4_change 54 = .ok (.if_icmp .ne 7, 3) := by decide +kernel
theorem dX4_change_57 : decode cX4_change 57 = .ok (.iconst 1, 1) := by decide +kernel
theorem dX4_change_58 : decode cX4_change 58 = .ok (.goto 4, 3) := by decide +kernel
theorem dX4_change_61 : decode cX4_change 61 = .ok (.iconst 0, 1) := by decide +kernel
theorem dX4_change_62 : decode cX4_change 62 = .ok (.istore 7, 2) := by decide +kernel
theorem dX4_change_64 : decode cX4_change 64 = .ok (.aload_n 0, 1) := by decide +kernel
theorem dX4_change_65 : decode cX4_change 65 = .ok (.getfield 20, 3) := by decide +kernel
theorem dX4_change_68 : decode cX4_change 68 = .ok (.iload 6, 2) := by decide +kernel
theorem dX4_change_70 : decode cX4_change 70 = .ok (.aaload, 1) := by decide +kernel
theorem dX4_change_71 : decode cX4_change 71 = .ok (.iconst 1, 1) := by decide +kernel
theorem dX4_change_72 : decode cX4_change 72 = .ok (.iaload, 1) := by decide +kernel
theorem dX4_change_73 : decode cX4_change 73 = .ok (.iload_n 2, 1) := by decide +kernel
theorem dX4_change_74 : decode cX4_change 74 = .ok (.if_icmp .ne 7, 3) := by decide +kernel
theorem dX4_change_77 : decode cX4_change 77 = .ok (.iconst 1, 1) := by decide +kernel
theorem dX4_change_78 : decode cX4_change 78 = .ok (.goto 4, 3) := by decide +kernel
theorem dX4_change_81 : decode cX4_change 81 = .ok (.iconst 0, 1) := by decide +kernel
theorem dX4_change_82 : decode cX4_change 82 = .ok (.istore 8, 2) := by decide +kernel
theorem dX4_change_84 : decode cX4_change 84 = .ok (.aload_n 0, 1) := by decide +kernel
theorem dX4_change_85 : decode cX4_change 85 = .ok (.getfield 20, 3) := by decide +kernel
theorem dX4_change_88 : decode cX4_change 88 = .ok (.iload 5, 2) := by decide +kernel
theorem dX4_change_90 : decode cX4_change 90 = .ok (.aaload, 1) := by decide +kernel
theorem dX4_change_91 : decode cX4_change 91 = .ok (.iload 7, 2) := by decide +kernel
theorem dX4_change_93 : decode cX4_change 93 = .ok (.iload_n 2, 1) := by decide +kernel
theorem dX4_change_94 : decode cX4_change 94 = .ok (.iastore, 1) := by decide +kernel
theorem dX4_change_95 : decode cX4_change 95 = .ok (.aload_n 0, 1) := by decide +kernel
theorem dX4_change_96 : decode cX4_change 96 = .ok (.getfield 20, 3) := by decide +kernel
theorem dX4_change_99 : decode cX4_change 99 = .ok (.iload 6, 2) := by decide +kernel
theorem dX4_change_101 : decode cX4_change 101 = .ok (.aaload, 1) := by decide +kernel
theorem dX4_change_102 : decode cX4_change 102 = .ok (.iload 8, 2) := by decide +kernel
theorem dX4_change_104 : decode cX4_change 104 = .ok (.iload_n 1, 1) := by decide +kernel
theorem dX4_change_105 : decode cX4_change 105 = .ok (.iastore, 1) := by decide +kernel
theorem dX4_change_106 : decode cX4_change 106 = .ok (.aload_n 0, 1) := by decide +kernel
theorem dX4_change_107 : decode cX4_change 107 = .ok (.getfield 16, 3) := by decide +kernel
theorem dX4_change_110 : decode cX4_change 110 = .ok (.iload_n 1, 1) := by decide +kernel
theorem dX4_change_111 : decode cX4_change 111 = .ok (.iload 6, 2) := by decide +kernel
theorem dX4_change_113 : decode cX4_change 113 = .ok (.iastore, 1) := by decide +kernel
theorem dX4_change_114 : decode cX4_change 114 = .ok (.aload_n 0, 1) := by decide +kernel
theorem dX4_change_115 : decode cX4_change 115 = .ok (.getfield 16, 3) := by decide +kernel
theorem dX4_change_118 : decode cX4_change 118 = .ok (.iload_n 2, 1) := by decide +kernel
theorem dX4_change_119 : decode cX4_change 119 = .ok (.iload 5, 2) := by decide +kernel
theorem dX4_change_121 : decode cX4_change 121 = .ok (.iastore, 1) := by decide +kernel
theorem dX4_change_122 : decode cX4_change 122 = .ok (.aload_n 0, 1) := by decide +kernel
theorem dX4_change_123 : decode cX4_change 123 = .ok (.dup, 1) := by decide +kernel
theorem dX4_change_124 : decode cX4_change 124 = .ok (.getfield 42, 3) := by decide +kernel
theorem dX4_change_127 : decode cX4_change 127 = .ok (.iconst 1, 1) := by decide +kernel
theorem dX4_change_128 : decode cX4_change 128 = .ok (.iadd, 1) := by decide +kernel
theorem dX4_change_129 : decode cX4_change 129 = .ok (.putfield 42, 3) := by decide +kernel
theorem dX4_change_132 : decode cX4_change 132 = .ok (.return_, 1) := by decide +kernel
set_option maxRecDepth 20000 in
theorem ggX4_use_X4_takes : GoodIn wsX4_use wsX4_takes := goodIn_r _ [14, 15, 16, 17, 13, 18, 4, 2, 19, 20, 21, 22, 6, 55, 56, 57, 58, 59, 60, 61, 62, 63, 64] (by decide +kernel) (by decide +kernel)
set_option maxRecDepth 20000 in
theorem gX4_use_X4_takes : GoodIn wsX4_use (wsV RX4 68 RX4 yX4_takes wsX4_takes) := goodIn_app (goodIn_of _ (by decide +kernel)) ggX4_use_X4_takes
set_option maxRecDepth 20000 in
theorem ggX4_use_X4_leaf : GoodIn wsX4_use wsX4_leaf := goodIn_r _ [18, 4, 2, 55, 56, 57, 58, 59, 60, 61, 62, 63, 64] (by decide +kernel) (by decide +kernel)
set_option maxRecDepth 20000 in
theorem gX4_use_X4_leaf : GoodIn wsX4_use (wsV RX4 55 RX4 yX4_leaf wsX4_leaf) := goodIn_app (goodIn_of _ (by decide +kernel)) ggX4_use_X4_leaf
set_option maxRecDepth 20000 in
theorem ggX4_use_X4_name : GoodIn wsX4_use wsX4_name := goodIn_r _ [26, 5, 1, 2, 6, 3, 27, 28, 13, 29, 30, 31, 32, 33, 55, 56, 57, 58, 59, 60, 61, 62, 63, 64] (by decide +kernel) (by decide +kernel)
set_option maxRecDepth 20000 in
theorem gX4_use_X4_name : GoodIn wsX4_use (wsV RX4 71 RX4 yX4_name wsX4_name) := goodIn_app (goodIn_of _ (by decide +kernel)) ggX4_use_X4_name
set_option maxRecDepth 20000 in
theorem ggX4_use_X4_more : GoodIn wsX4_use wsX4_more := goodIn_r _ [29, 1] (by decide +kernel) (by decide +kernel)
set_option maxRecDepth 20000 in
theorem gX4_use_X4_more : GoodIn wsX4_use (va_wsS RX4 58 yX4_more wsX4_more) := goodIn_app (goodIn_of _ (by decide +kernel)) ggX4_use_X4_more
set_option maxRecDepth 20000 in
theorem ggX4_use_X4_change : GoodIn wsX4_use wsX4_change := goodIn_r _ [37, 4, 6, 3, 38, 39, 40, 41, 13, 42, 55, 56, 57, 58, 59, 60, 61, 62, 63, 64] (by decide +kernel) (by decide +kernel)
set_option maxRecDepth 20000 in
theorem gX4_use_X4_change : GoodIn wsX4_use (wsV RX4 75 RX4 yX4_change wsX4_change) := goodIn_app (goodIn_of _ (by decide +kernel)) ggX4_use_X4_change
set_option maxRecDepth 20000 in
theorem ggX4_use_X4_wear : GoodIn wsX4_use wsX4_wear := goodIn_r _ [46, 1, 4, 2, 5, 6, 33, 3, 47, 23, 24, 25, 13, 26, 27, 28, 29, 30, 31, 32, 48, 49, 50, 51, 52, 53, 54, 55, 56, 57, 58, 59, 60, 61, 62, 63, 64] (by decide +kernel) (by decide +kernel)
set_option maxRecDepth 20000 in
theorem gX4_use_X4_wear : GoodIn wsX4_use (wsV RX4 79 RX4 yX4_wear wsX4_wear) := goodIn_app (goodIn_of _ (by decide +kernel)) ggX4_use_X4_wear
theorem dX4_use_0 : decode cX4_use 0 = .ok (.aload_n 0, 1) := by decide +kernel
theorem dX4_use_1 : decode cX4_use 1 = .ok (.iload_n 1, 1) := by decide +kernel
theorem dX4_use_2 : decode cX4_use 2 = .ok (.invokevirtual 68, 3) := by decide +kernel
theorem dX4_use_5 : decode cX4_use 5 = .ok (.istore_n 2, 1) := by decide +kernel
theorem dX4_use_6 : decode cX4_use 6 = .ok (.aload_n 0, 1) := by decide +kernel
theorem dX4_use_7 : decode cX4_use 7 = .ok (.iload_n 1, 1) := by decide +kernel
theorem dX4_use_8 : decode cX4_use 8 = .ok (.invokevirtual 55, 3) := by decide +kernel
theorem dX4_use_11 : decode cX4_use 11 = .ok (.ifCond .ge 85, 3) := by decide +kernel
theorem dX4_use_14 : decode cX4_use 14 = .ok (.aload_n 0, 1) := by decide +kernel
theorem dX4_use_15 : decode cX4_use 15 = .ok (.bipush 32, 2) := by decide +kernel
theorem dX4_use_17 : decode cX4_use 17 = .ok (.invokevirtual 55, 3) := by decide +kernel
theorem dX4_use_20 : decode cX4_use 20 = .ok (.istore_n 3, 1) := by decide +kernel
theorem dX4_use_21 : decode cX4_use 21 = .ok (.aload_n 0, 1) := by decide +kernel
theorem dX4_use_22 : decode cX4_use 22 = .ok (.iconst 0, 1) := by decide +kernel
theorem dX4_use_23 : decode cX4_use 23 = .ok (.iload_n 1, 1) := by decide +kernel
theorem dX4_use_24 : decode cX4_use 24 = .ok (.iload_n 3, 1) := by decide +kernel
theorem dX4_use_25 : decode cX4_use 25 = .ok (.iconst 0, 1) := by decide +kernel
theorem dX4_use_26 : decode cX4_use 26 = .ok (.newarray .int, 2) := by decide +kernel
theorem dX4_use_28 : decode cX4_use 28 = .ok (.invokevirtual 71, 3) := by decide +kernel
theorem dX4_use_31 : decode cX4_use 31 = .ok (.istore 4, 2) := by decide +kernel
theorem dX4_use_33 : decode cX4_use 33 = .ok (.aload_n 0, 1) := by decide +kernel
theorem dX4_use_34 : decode cX4_use 34 = .ok (.iconst 1, 1) := by decide +kernel
theorem dX4_use_35 : decode cX4_use 35 = .ok (.bipush 32, 2) := by decide +kernel
theorem dX4_use_37 : decode cX4_use 37 = .ok (.iload_n 3, 1) := by decide +kernel
theorem dX4_use_38 : decode cX4_use 38 = .ok (.iconst 0, 1) := by decide +kernel
theorem dX4_use_39 : decode cX4_use 39 = .ok (.newarray .int, 2) := by decide +kernel
theorem dX4_use_41 : decode cX4_use 41 = .ok (.invokevirtual 71, 3) := by decide +kernel
theorem dX4_use_44 : decode cX4_use 44 = .ok (.istore 5, 2) := by decide +kernel
theorem dX4_use_46 : decode cX4_use 46 = .ok (.aload_n 0, 1) := by decide +kernel
theorem dX4_use_47 : decode cX4_use 47 = .ok (.getfield 13, 3) := by decide +kernel
theorem dX4_use_50 : decode cX4_use 50 = .ok (.iload_n 3, 1) := by decide +kernel
theorem dX4_use_51 : decode cX4_use 51 = .ok (.iconst (-1), 1) := by decide +kernel
theorem dX4_use_52 : decode cX4_use 52 = .ok (.iastore, 1) := by decide +kernel
theorem dX4_use_53 : decode cX4_use 53 = .ok (.aload_n 0, 1) := by decide +kernel
theorem dX4_use_54 : decode cX4_use 54 = .ok (.getfield 20, 3) := by decide +kernel
theorem dX4_use_57 : decode cX4_use 57 = .ok (.iload_n 3, 1) := by decide +kernel
theorem dX4_use_58 : decode cX4_use 58 = .ok (.iconst 2, 1) := by decide +kernel
theorem dX4_use_59 : decode cX4_use 59 = .ok (.newarray .int, 2) := by decide +kernel
theorem dX4_use_61 : decode cX4_use 61 = .ok (.dup, 1) := by decide +kernel
theorem dX4_use_62 : decode cX4_use 62 = .ok (.iconst 0, 1) := by decide +kernel
theorem dX4_use_63 : decode cX4_use 63 = .ok (.iload 5, 2) := by decide +kernel
theorem dX4_use_65 : decode cX4_use 65 = .ok (.iastore, 1) := by decide +kernel
theorem dX4_use_66 : decode cX4_use 66 = .ok (.dup, 1) := by decide +kernel
theorem dX4_use_67 : decode cX4_use 67 = .ok (.iconst 1, 1) := by decide +kernel
theorem dX4_use_68 : decode cX4_use 68 = .ok (.iload 4, 2) := by decide +kernel
theorem dX4_use_70 : decode cX4_use 70 = .ok (.iastore, 1) := by decide +kernel
theorem dX4_use_71 : decode cX4_use 71 = .ok (.aastore, 1) := by decide +kernel
theorem dX4_use_72 : decode cX4_use 72 = .ok (.aload_n 0, 1) := by decide +kernel
theorem dX4_use_73 : decode cX4_use 73 = .ok (.aload_n 0, 1) := by decide +kernel
theorem dX4_use_74 : decode cX4_use 74 = .ok (.getfield 24, 3) := by decide +kernel
theorem dX4_use_77 : decode cX4_use 77 = .ok (.iconst 2, 1) := by decide +kernel
theorem dX4_use_78 : decode cX4_use 78 = .ok (.newarray .int, 2) := by decide +kernel
theorem dX4_use_80 : decode cX4_use 80 = .ok (.dup, 1) := by decide +kernel
theorem dX4_use_81 : decode cX4_use 81 = .ok (.iconst 0, 1) := by decide +kernel
theorem dX4_use_82 : decode cX4_use 82 = .ok (.iload 5, 2) := by decide +kernel
theorem dX4_use_84 : decode cX4_use 84 = .ok (.iastore, 1) := by decide +kernel
theorem dX4_use_85 : decode cX4_use 85 = .ok (.dup, 1) := by decide +kernel
theorem dX4_use_86 : decode cX4_use 86 = .ok (.iconst 1, 1) := by decide +kernel
theorem dX4_use_87 : decode cX4_use 87 = .ok (.iload 4, 2) := by decide +kernel
theorem dX4_use_89 : decode cX4_use 89 = .ok (.iastore, 1) := by decide +kernel
theorem dX4_use_90 : decode cX4_use 90 = .ok (.invokestatic 58, 3) := by decide +kernel
theorem dX4_use_93 : decode cX4_use 93 = .ok (.putfield 24, 3) := by decide +kernel
theorem dX4_use_96 : decode cX4_use 96 = .ok (.aload_n 0, 1) := by decide +kernel
theorem dX4_use_97 : decode cX4_use 97 = .ok (.iload_n 1, 1) := by decide +kernel
theorem dX4_use_98 : decode cX4_use 98 = .ok (.invokevirtual 55, 3) := by decide +kernel
theorem dX4_use_101 : decode cX4_use 101 = .ok (.istore_n 3, 1) := by decide +kernel
theorem dX4_use_102 : decode cX4_use 102 = .ok (.iload_n 3, 1) := by decide +kernel
theorem dX4_use_103 : decode cX4_use 103 = .ok (.ifCond .lt 92, 3) := by decide +kernel
theorem dX4_use_106 : decode cX4_use 106 = .ok (.aload_n 0, 1) := by decide +kernel
theorem dX4_use_107 : decode cX4_use 107 = .ok (.getfield 24, 3) := by decide +kernel
theorem dX4_use_110 : decode cX4_use 110 = .ok (.astore 4, 2) := by decide +kernel
theorem dX4_use_112 : decode cX4_use 112 = .ok (.aload 4, 2) := by decide +kernel
theorem dX4_use_114 : decode cX4_use 114 = .ok (.arraylength, 1) := by decide +kernel
theorem dX4_use_115 : decode cX4_use 115 = .ok (.istore 5, 2) := by decide +kernel
theorem dX4_use_117 : decode cX4_use 117 = .ok (.iconst 0, 1) := by decide +kernel
theorem dX4_use_118 : decode cX4_use 118 = .ok (.istore 6, 2) := by decide +kernel
theorem dX4_use_120 : decode cX4_use 120 = .ok (.iload 6, 2) := by decide +kernel
theorem dX4_use_122 : decode cX4_use 122 = .ok (.iload 5, 2) := by decide +kernel
theorem dX4_use_124 : decode cX4_use 124 = .ok (.if_icmp .ge 51, 3) := by decide +kernel
theorem dX4_use_127 : decode cX4_use 127 = .ok (.aload 4, 2) := by decide +kernel
theorem dX4_use_129 : decode cX4_use 129 = .ok (.iload 6, 2) := by decide +kernel
theorem dX4_use_131 : decode cX4_use 131 = .ok (.iaload, 1) := by decide +kernel
theorem dX4_use_132 : decode cX4_use 132 = .ok (.istore 7, 2) := by decide +kernel
theorem dX4_use_134 : decode cX4_use 134 = .ok (.aload_n 0, 1) := by decide +kernel
theorem dX4_use_135 : decode cX4_use 135 = .ok (.getfield 7, 3) := by decide +kernel
theorem dX4_use_138 : decode cX4_use 138 = .ok (.iload 7, 2) := by decide +kernel
theorem dX4_use_140 : decode cX4_use 140 = .ok (.iaload, 1) := by decide +kernel
theorem dX4_use_141 : decode cX4_use 141 = .ok (.aload_n 0, 1) := by decide +kernel
theorem dX4_use_142 : decode cX4_use 142 = .ok (.getfield 7, 3) := by decide +kernel
theorem dX4_use_145 : decode cX4_use 145 = .ok (.iload_n 3, 1) := by decide +kernel
theorem dX4_use_146 : decode cX4_use 146 = .ok (.iaload, 1) := by decide +kernel
theorem dX4_use_147 : decode cX4_use 147 = .ok (.if_icmp .eq 6, 3) := by decide +kernel
theorem dX4_use_150 : decode cX4_use 150 = .ok (.goto 19, 3) := by decide +kernel
theorem dX4_use_153 : decode cX4_use 153 = .ok (.iload 7, 2) := by decide +kernel
theorem dX4_use_155 : decode cX4_use 155 = .ok (.iload_n 3, 1) := by decide +kernel
theorem dX4_use_156 : decode cX4_use 156 = .ok (.if_icmp .eq 19, 3) := by decide +kernel
theorem dX4_use_159 : decode cX4_use 159 = .ok (.aload_n 0, 1) := by decide +kernel
theorem dX4_use_160 : decode cX4_use 160 = .ok (.iload_n 3, 1) := by decide +kernel
theorem dX4_use_161 : decode cX4_use 161 = .ok (.iload 7, 2) := by decide +kernel
theorem dX4_use_163 : decode cX4_use 163 = .ok (.invokevirtual 75, 3) := by decide +kernel
theorem dX4_use_166 : decode cX4_use 166 = .ok (.goto 9, 3) := by decide +kernel
theorem dX4_use_169 : decode cX4_use 169 = .ok (.iinc 6 1, 3) := by decide +kernel
theorem dX4_use_172 : decode cX4_use 172 = .ok (.goto (-52), 3) := by decide +kernel
theorem dX4_use_175 : decode cX4_use 175 = .ok (.aload_n 0, 1) := by decide +kernel
theorem dX4_use_176 : decode cX4_use 176 = .ok (.getfield 7, 3) := by decide +kernel
theorem dX4_use_179 : decode cX4_use 179 = .ok (.iload_n 3, 1) := by decide +kernel
theorem dX4_use_180 : decode cX4_use 180 = .ok (.dup2, 1) := by decide +kernel
theorem dX4_use_181 : decode cX4_use 181 = .ok (.iaload, 1) := by decide +kernel
theorem dX4_use_182 : decode cX4_use 182 = .ok (.iconst 1, 1) := by decide +kernel
theorem dX4_use_183 : decode cX4_use 183 = .ok (.iadd, 1) := by decide +kernel
theorem dX4_use_184 : decode cX4_use 184 = .ok (.iastore, 1) := by decide +kernel
theorem dX4_use_185 : decode cX4_use 185 = .ok (.aload_n 0, 1) := by decide +kernel
theorem dX4_use_186 : decode cX4_use 186 = .ok (.getfield 16, 3) := by decide +kernel
theorem dX4_use_189 : decode cX4_use 189 = .ok (.iload_n 3, 1) := by decide +kernel
theorem dX4_use_190 : decode cX4_use 190 = .ok (.iaload, 1) := by decide +kernel
theorem dX4_use_191 : decode cX4_use 191 = .ok (.istore_n 3, 1) := by decide +kernel
theorem dX4_use_192 : decode cX4_use 192 = .ok (.goto (-90), 3) := by decide +kernel
theorem dX4_use_195 : decode cX4_use 195 = .ok (.aload_n 0, 1) := by decide +kernel
theorem dX4_use_196 : decode cX4_use 196 = .ok (.dup, 1) := by decide +kernel
theorem dX4_use_197 : decode cX4_use 197 = .ok (.getfield 36, 3) := by decide +kernel
theorem dX4_use_200 : decode cX4_use 200 = .ok (.iconst 1, 1) := by decide +kernel
theorem dX4_use_201 : decode cX4_use 201 = .ok (.iadd, 1) := by decide +kernel
theorem dX4_use_202 : decode cX4_use 202 = .ok (.putfield 36, 3) := by decide +kernel
theorem dX4_use_205 : decode cX4_use 205 = .ok (.aload_n 0, 1) := by decide +kernel
theorem dX4_use_206 : decode cX4_use 206 = .ok (.dup, 1) := by decide +kernel
theorem dX4_use_207 : decode cX4_use 207 = .ok (.getfield 39, 3) := by decide +kernel
theorem dX4_use_210 : decode cX4_use 210 = .ok (.iload_n 2, 1) := by decide +kernel
theorem dX4_use_211 : decode cX4_use 211 = .ok (.iadd, 1) := by decide +kernel
theorem dX4_use_212 : decode cX4_use 212 = .ok (.putfield 39, 3) := by decide +kernel
theorem dX4_use_215 : decode cX4_use 215 = .ok (.aload_n 0, 1) := by decide +kernel
theorem dX4_use_216 : decode cX4_use 216 = .ok (.getfield 7, 3) := by decide +kernel
theorem dX4_use_219 : decode cX4_use 219 = .ok (.aload_n 0, 1) := by decide +kernel
theorem dX4_use_220 : decode cX4_use 220 = .ok (.getfield 24, 3) := by decide +kernel
theorem dX4_use_223 : decode cX4_use 223 = .ok (.iconst 0, 1) := by decide +kernel
theorem dX4_use_224 : decode cX4_use 224 = .ok (.iaload, 1) := by decide +kernel
theorem dX4_use_225 : decode cX4_use 225 = .ok (.iaload, 1) := by decide +kernel
theorem dX4_use_226 : decode cX4_use 226 = .ok (.aload_n 0, 1) := by decide +kernel
theorem dX4_use_227 : decode cX4_use 227 = .ok (.getfield 27, 3) := by decide +kernel
theorem dX4_use_230 : decode cX4_use 230 = .ok (.if_icmp .lt 8, 3) := by decide +kernel
theorem dX4_use_233 : decode cX4_use 233 = .ok (.aload_n 0, 1) := by decide +kernel
theorem dX4_use_234 : decode cX4_use 234 = .ok (.invokevirtual 79, 3) := by decide +kernel
theorem dX4_use_237 : decode cX4_use 237 = .ok (.pop, 1) := by decide +kernel
theorem dX4_use_238 : decode cX4_use 238 = .ok (.iload_n 2, 1) := by decide +kernel
theorem dX4_use_239 : decode cX4_use 239 = .ok (.ireturn, 1) := by decide +kernel
set_option maxRecDepth 20000 in
theorem ggX4_useAll_X4_use : GoodIn wsX4_useAll wsX4_use := goodIn_r _ [5, 6, 7, 8, 9, 10, 11, 12, 13, 14, 15, 16, 17, 4, 18, 19, 20, 21, 22, 23, 24, 25, 26, 27, 28, 29, 30, 31, 32, 33, 34, 35, 36, 37, 38, 39, 40, 41, 42, 43, 44, 45, 46, 47, 48, 49, 50, 51, 52, 53, 54, 55, 56, 57, 58, 59, 60, 61, 62, 63, 64, 65, 66, 67, 68] (by decide +kernel) (by decide +kernel)
set_option maxRecDepth 20000 in
theorem gX4_useAll_X4_use : GoodIn wsX4_useAll (wsV RX4 83 RX4 yX4_use wsX4_use) := goodIn_app (goodIn_of _ (by decide +kernel)) ggX4_useAll_X4_use
theorem dX4_useAll_0 : decode cX4_useAll 0 = .ok (.iconst 0, 1) := by decide +kernel
theorem dX4_useAll_1 : decode cX4_useAll 1 = .ok (.istore 4, 2) := by decide +kernel
theorem dX4_useAll_3 : decode cX4_useAll 3 = .ok (.iload_n 1, 1) := by decide +kernel
theorem dX4_useAll_4 : decode cX4_useAll 4 = .ok (.istore 5, 2) := by decide +kernel
theorem dX4_useAll_6 : decode cX4_useAll 6 = .ok (.iconst 0, 1) := by decide +kernel
theorem dX4_useAll_7 : decode cX4_useAll 7 = .ok (.istore 6, 2) := by decide +kernel
theorem dX4_useAll_9 : decode cX4_useAll 9 = .ok (.iload 6, 2) := by decide +kernel
theorem dX4_useAll_11 : decode cX4_useAll 11 = .ok (.iload_n 3, 1) := by decide +kernel
theorem dX4_useAll_12 : decode cX4_useAll 12 = .ok (.if_icmp .ge 36, 3) := by decide +kernel
theorem dX4_useAll_15 : decode cX4_useAll 15 = .ok (.iload 4, 2) := by decide +kernel
theorem dX4_useAll_17 : decode cX4_useAll 17 = .ok (.aload_n 0, 1) := by decide +kernel
theorem dX4_useAll_18 : decode cX4_useAll 18 = .ok (.iload 5, 2) := by decide +kernel
theorem dX4_useAll_20 : decode cX4_useAll 20 = .ok (.invokevirtual 83, 3) := by decide +kernel
theorem dX4_useAll_23 : decode cX4_useAll 23 = .ok (.iadd, 1) := by decide +kernel
theorem dX4_useAll_24 : decode cX4_useAll 24 = .ok (.istore 4, 2) := by decide +kernel
theorem dX4_useAll_26 : decode cX4_useAll 26 = .ok (.iload 5, 2) := by decide +kernel
theorem dX4_useAll_28 : decode cX4_useAll 28 = .ok (.iload_n 2, 1) := by decide +kernel
theorem dX4_useAll_29 : decode cX4_useAll 29 = .ok (.iadd, 1) := by decide +kernel
theorem dX4_useAll_30 : decode cX4_useAll 30 = .ok (.istore 5, 2) := by decide +kernel
theorem dX4_useAll_32 : decode cX4_useAll 32 = .ok (.iload 5, 2) := by decide +kernel
theorem dX4_useAll_34 : decode cX4_useAll 34 = .ok (.bipush 31, 2) := by decide +kernel
theorem dX4_useAll_36 : decode cX4_useAll 36 = .ok (.if_icmp .le 6, 3) := by decide +kernel
theorem dX4_useAll_39 : decode cX4_useAll 39 = .ok (.iinc 5 (-32), 3) := by decide +kernel
theorem dX4_useAll_42 : decode cX4_useAll 42 = .ok (.iinc 6 1, 3) := by decide +kernel
theorem dX4_useAll_45 : decode cX4_useAll 45 = .ok (.goto (-36), 3) := by decide +kernel
theorem dX4_useAll_48 : decode cX4_useAll 48 = .ok (.iload 4, 2) := by decide +kernel
theorem dX4_useAll_50 : decode cX4_useAll 50 = .ok (.ireturn, 1) := by decide +kernel
set_option maxRecDepth 20000 in
theorem ggX4_wear_X4_name : GoodIn wsX4_wear wsX4_name := goodIn_r _ [13, 4, 1, 3, 5, 7, 14, 15, 12, 16, 17, 18, 19, 6, 27, 28, 29, 30, 31, 32, 33, 34, 35, 36] (by decide +kernel) (by decide +kernel)
set_option maxRecDepth 20000 in
theorem gX4_wear_X4_name : GoodIn wsX4_wear (wsV RX4 71 RX4 yX4_name wsX4_name) := goodIn_app (goodIn_of _ (by decide +kernel)) ggX4_wear_X4_name
set_option maxRecDepth 20000 in
theorem ggX4_wear_X4_more : GoodIn wsX4_wear wsX4_more := goodIn_r _ [16, 1] (by decide +kernel) (by decide +kernel)
set_option maxRecDepth 20000 in
theorem gX4_wear_X4_more : GoodIn wsX4_wear (va_wsS RX4 58 yX4_more wsX4_more) := goodIn_app (goodIn_of _ (by decide +kernel)) ggX4_wear_X4_more
set_option maxRecDepth 20000 in
theorem ggX4_wear_X4_lightest : GoodIn wsX4_wear wsX4_lightest := goodIn_r _ [23, 4, 27, 28, 29, 30, 31, 32, 33, 34, 35, 36] (by decide +kernel) (by decide +kernel)
set_option maxRecDepth 20000 in
theorem gX4_wear_X4_lightest : GoodIn wsX4_wear (wsV RX4 86 RX4 yX4_lightest wsX4_lightest) := goodIn_app (goodIn_of _ (by decide +kernel)) ggX4_wear_X4_lightest
set_option maxRecDepth 20000 in
theorem ggX4_wear_X4_without : GoodIn wsX4_wear wsX4_without := goodIn_r _ [26, 1, 14, 15, 12, 16] (by decide +kernel) (by decide +kernel)
set_option maxRecDepth 20000 in
theorem gX4_wear_X4_without : GoodIn wsX4_wear (va_wsS RX4 90 yX4_without wsX4_without) := goodIn_app (goodIn_of _ (by decide +kernel)) ggX4_wear_X4_without
theorem dX4_wear_0 : decode cX4_wear 0 = .ok (.bipush 33, 2) := by decide +kernel
theorem dX4_wear_2 : decode cX4_wear 2 = .ok (.newarray .int, 2) := by decide +kernel
theorem dX4_wear_4 : decode cX4_wear 4 = .ok (.astore_n 1, 1) := by decide +kernel
theorem dX4_wear_5 : decode cX4_wear 5 = .ok (.iconst 0, 1) := by decide +kernel
theorem dX4_wear_6 : decode cX4_wear 6 = .ok (.istore_n 2, 1) := by decide +kernel
theorem dX4_wear_7 : decode cX4_wear 7 = .ok (.aload_n 0, 1) := by decide +kernel
theorem dX4_wear_8 : decode cX4_wear 8 = .ok (.getfield 24, 3) := by decide +kernel
theorem dX4_wear_11 : decode cX4_wear 11 = .ok (.astore_n 3, 1) := by decide +kernel
theorem dX4_wear_12 : decode cX4_wear 12 = .ok (.aload_n 3, 1) := by decide +kernel
theorem dX4_wear_13 : decode cX4_wear 13 = .ok (.arraylength, 1) := by decide +kernel
theorem dX4_wear_14 : decode cX4_wear 14 = .ok (.istore 4, 2) := by decide +kernel
theorem dX4_wear_16 : decode cX4_wear 16 = .ok (.iconst 0, 1) := by decide +kernel
theorem dX4_wear_17 : decode cX4_wear 17 = .ok (.istore 5, 2) := by decide +kernel
theorem dX4_wear_19 : decode cX4_wear 19 = .ok (.iload 5, 2) := by decide +kernel
theorem dX4_wear_21 : decode cX4_wear 21 = .ok (.iload 4, 2) := by decide +kernel
theorem dX4_wear_23 : decode cX4_wear 23 = .ok (.if_icmp .ge 82, 3) := by decide +kernel
theorem dX4_wear_26 : decode cX4_wear 26 = .ok (.aload_n 3, 1) := by decide +kernel
theorem dX4_wear_27 : decode cX4_wear 27 = .ok (.iload 5, 2) := by decide +kernel
theorem dX4_wear_29 : decode cX4_wear 29 = .ok (.iaload, 1) := by decide +kernel
theorem dX4_wear_30 : decode cX4_wear 30 = .ok (.istore 6, 2) := by decide +kernel
theorem dX4_wear_32 : decode cX4_wear 32 = .ok (.aload_n 0, 1) := by decide +kernel
theorem dX4_wear_33 : decode cX4_wear 33 = .ok (.getfield 13, 3) := by decide +kernel
theorem dX4_wear_36 : decode cX4_wear 36 = .ok (.iload 6, 2) := by decide +kernel
theorem dX4_wear_38 : decode cX4_wear 38 = .ok (.iaload, 1) := by decide +kernel
theorem dX4_wear_39 : decode cX4_wear 39 = .ok (.ifCond .ge 6, 3) := by decide +kernel
theorem dX4_wear_42 : decode cX4_wear 42 = .ok (.goto 57, 3) := by decide +kernel
theorem dX4_wear_45 : decode cX4_wear 45 = .ok (.aload_n 1, 1) := by decide +kernel
theorem dX4_wear_46 : decode cX4_wear 46 = .ok (.aload_n 0, 1) := by decide +kernel
theorem dX4_wear_47 : decode cX4_wear 47 = .ok (.getfield 13, 3) := by decide +kernel
theorem dX4_wear_50 : decode cX4_wear 50 = .ok (.iload 6, 2) := by decide +kernel
theorem dX4_wear_52 : decode cX4_wear 52 = .ok (.iaload, 1) := by decide +kernel
theorem dX4_wear_53 : decode cX4_wear 53 = .ok (.aload_n 0, 1) := by decide +kernel
theorem dX4_wear_54 : decode cX4_wear 54 = .ok (.getfield 13, 3) := by decide +kernel
theorem dX4_wear_57 : decode cX4_wear 57 = .ok (.iload 6, 2) := by decide +kernel
theorem dX4_wear_59 : decode cX4_wear 59 = .ok (.iaload, 1) := by decide +kernel
theorem dX4_wear_60 : decode cX4_wear 60 = .ok (.bipush 32, 2) := by decide +kernel
theorem dX4_wear_62 : decode cX4_wear 62 = .ok (.if_icmp .ne 7, 3) := by decide +kernel
theorem dX4_wear_65 : decode cX4_wear 65 = .ok (.iconst 1, 1) := by decide +kernel
theorem dX4_wear_66 : decode cX4_wear 66 = .ok (.goto 12, 3) := by decide +kernel
theorem dX4_wear_69 : decode cX4_wear 69 = .ok (.aload_n 0, 1) := by decide +kernel
theorem dX4_wear_70 : decode cX4_wear 70 = .ok (.getfield 7, 3) := by decide +kernel
theorem dX4_wear_73 : decode cX4_wear 73 = .ok (.iload 6, 2) := by decide +kernel
theorem dX4_wear_75 : decode cX4_wear 75 = .ok (.iaload, 1) := by decide +kernel
theorem dX4_wear_76 : decode cX4_wear 76 = .ok (.iconst 2, 1) := by decide +kernel
theorem dX4_wear_77 : decode cX4_wear 77 = .ok (.idiv, 1) := by decide +kernel
theorem dX4_wear_78 : decode cX4_wear 78 = .ok (.iastore, 1) := by decide +kernel
theorem dX4_wear_79 : decode cX4_wear 79 = .ok (.iload_n 2, 1) := by decide +kernel
theorem dX4_wear_80 : decode cX4_wear 80 = .ok (.aload_n 1, 1) := by decide +kernel
theorem dX4_wear_81 : decode cX4_wear 81 = .ok (.aload_n 0, 1) := by decide +kernel
theorem dX4_wear_82 : decode cX4_wear 82 = .ok (.getfield 13, 3) := by decide +kernel
theorem dX4_wear_85 : decode cX4_wear 85 = .ok (.iload 6, 2) := by decide +kernel
theorem dX4_wear_87 : decode cX4_wear 87 = .ok (.iaload, 1) := by decide +kernel
theorem dX4_wear_88 : decode cX4_wear 88 = .ok (.iaload, 1) := by decide +kernel
theorem dX4_wear_89 : decode cX4_wear 89 = .ok (.ifCond .ne 7, 3) := by decide +kernel
theorem dX4_wear_92 : decode cX4_wear 92 = .ok (.iconst 1, 1) := by decide +kernel
theorem dX4_wear_93 : decode cX4_wear 93 = .ok (.goto 4, 3) := by decide +kernel
theorem dX4_wear_96 : decode cX4_wear 96 = .ok (.iconst 0, 1) := by decide +kernel
theorem dX4_wear_97 : decode cX4_wear 97 = .ok (.iadd, 1) := by decide +kernel
theorem dX4_wear_98 : decode cX4_wear 98 = .ok (.istore_n 2, 1) := by decide +kernel
theorem dX4_wear_99 : decode cX4_wear 99 = .ok (.iinc 5 1, 3) := by decide +kernel
theorem dX4_wear_102 : decode cX4_wear 102 = .ok (.goto (-83), 3) := by decide +kernel
theorem dX4_wear_105 : decode cX4_wear 105 = .ok (.aload_n 0, 1) := by decide +kernel
theorem dX4_wear_106 : decode cX4_wear 106 = .ok (.iconst 0, 1) := by decide +kernel
theorem dX4_wear_107 : decode cX4_wear 107 = .ok (.newarray .int, 2) := by decide +kernel
theorem dX4_wear_109 : decode cX4_wear 109 = .ok (.putfield 7, 3) := by decide +kernel
theorem dX4_wear_112 : decode cX4_wear 112 = .ok (.aload_n 0, 1) := by decide +kernel
theorem dX4_wear_113 : decode cX4_wear 113 = .ok (.iconst 0, 1) := by decide +kernel
theorem dX4_wear_114 : decode cX4_wear 114 = .ok (.newarray .int, 2) := by decide +kernel
theorem dX4_wear_116 : decode cX4_wear 116 = .ok (.putfield 13, 3) := by decide +kernel
theorem dX4_wear_119 : decode cX4_wear 119 = .ok (.aload_n 0, 1) := by decide +kernel
theorem dX4_wear_120 : decode cX4_wear 120 = .ok (.iconst 0, 1) := by decide +kernel
theorem dX4_wear_121 : decode cX4_wear 121 = .ok (.newarray .int, 2) := by decide +kernel
theorem dX4_wear_123 : decode cX4_wear 123 = .ok (.putfield 16, 3) := by decide +kernel
theorem dX4_wear_126 : decode cX4_wear 126 = .ok (.aload_n 0, 1) := by decide +kernel
theorem dX4_wear_127 : decode cX4_wear 127 = .ok (.iconst 0, 1) := by decide +kernel
theorem dX4_wear_128 : decode cX4_wear 128 = .ok (.anewarray 19, 3) := by decide +kernel
theorem dX4_wear_131 : decode cX4_wear 131 = .ok (.putfield 20, 3) := by decide +kernel
theorem dX4_wear_134 : decode cX4_wear 134 = .ok (.iconst 1, 1) := by decide +kernel
theorem dX4_wear_135 : decode cX4_wear 135 = .ok (.newarray .int, 2) := by decide +kernel
theorem dX4_wear_137 : decode cX4_wear 137 = .ok (.dup, 1) := by decide +kernel
theorem dX4_wear_138 : decode cX4_wear 138 = .ok (.iconst 0, 1) := by decide +kernel
theorem dX4_wear_139 : decode cX4_wear 139 = .ok (.aload_n 0, 1) := by decide +kernel
theorem dX4_wear_140 : decode cX4_wear 140 = .ok (.iconst 1, 1) := by decide +kernel
theorem dX4_wear_141 : decode cX4_wear 141 = .ok (.bipush 32, 2) := by decide +kernel
theorem dX4_wear_143 : decode cX4_wear 143 = .ok (.iconst (-1), 1) := by decide +kernel
theorem dX4_wear_144 : decode cX4_wear 144 = .ok (.iconst 0, 1) := by decide +kernel
theorem dX4_wear_145 : decode cX4_wear 145 = .ok (.newarray .int, 2) := by decide +kernel
theorem dX4_wear_147 : decode cX4_wear 147 = .ok (.invokevirtual 71, 3) := by decide +kernel
theorem dX4_wear_150 : decode cX4_wear 150 = .ok (.iastore, 1) := by decide +kernel
theorem dX4_wear_151 : decode cX4_wear 151 = .ok (.astore_n 3, 1) := by decide +kernel
theorem dX4_wear_152 : decode cX4_wear 152 = .ok (.iconst 0, 1) := by decide +kernel
theorem dX4_wear_153 : decode cX4_wear 153 = .ok (.istore 4, 2) := by decide +kernel
theorem dX4_wear_155 : decode cX4_wear 155 = .ok (.iload 4, 2) := by decide +kernel
theorem dX4_wear_157 : decode cX4_wear 157 = .ok (.bipush 32, 2) := by decide +kernel
theorem dX4_wear_159 : decode cX4_wear 159 = .ok (.if_icmp .ge 41, 3) := by decide +kernel
theorem dX4_wear_162 : decode cX4_wear 162 = .ok (.aload_n 1, 1) := by decide +kernel
theorem dX4_wear_163 : decode cX4_wear 163 = .ok (.iload 4, 2) := by decide +kernel
theorem dX4_wear_165 : decode cX4_wear 165 = .ok (.iaload, 1) := by decide +kernel
theorem dX4_wear_166 : decode cX4_wear 166 = .ok (.ifCond .le 28, 3) := by decide +kernel
theorem dX4_wear_169 : decode cX4_wear 169 = .ok (.aload_n 3, 1) := by decide +kernel
theorem dX4_wear_170 : decode cX4_wear 170 = .ok (.iconst 1, 1) := by decide +kernel
theorem dX4_wear_171 : decode cX4_wear 171 = .ok (.newarray .int, 2) := by decide +kernel
theorem dX4_wear_173 : decode cX4_wear 173 = .ok (.dup, 1) := by decide +kernel
theorem dX4_wear_174 : decode cX4_wear 174 = .ok (.iconst 0, 1) := by decide +kernel
theorem dX4_wear_175 : decode cX4_wear 175 = .ok (.aload_n 0, 1) := by decide +kernel
theorem dX4_wear_176 : decode cX4_wear 176 = .ok (.aload_n 1, 1) := by decide +kernel
theorem dX4_wear_177 : decode cX4_wear 177 = .ok (.iload 4, 2) := by decide +kernel
theorem dX4_wear_179 : decode cX4_wear 179 = .ok (.iaload, 1) := by decide +kernel
theorem dX4_wear_180 : decode cX4_wear 180 = .ok (.iload 4, 2) := by decide +kernel
theorem dX4_wear_182 : decode cX4_wear 182 = .ok (.iconst (-1), 1) := by decide +kernel
theorem dX4_wear_183 : decode cX4_wear 183 = .ok (.iconst 0, 1) := by decide +kernel
theorem dX4_wear_184 : decode cX4_wear 184 = .ok (.newarray .int, 2) := by decide +kernel
theorem dX4_wear_186 : decode cX4_wear 186 = .ok (.invokevirtual 71, 3) := by decide +kernel
theorem dX4_wear_189 : decode cX4_wear 189 = .ok (.iastore, 1) := by decide +kernel
theorem dX4_wear_190 : decode cX4_wear 190 = .ok (.invokestatic 58, 3) := by decide +kernel
theorem dX4_wear_193 : decode cX4_wear 193 = .ok (.astore_n 3, 1) := by decide +kernel
theorem dX4_wear_194 : decode cX4_wear 194 = .ok (.iinc 4 1, 3) := by decide +kernel
theorem dX4_wear_197 : decode cX4_wear 197 = .ok (.goto (-42), 3) := by decide +kernel
theorem dX4_wear_200 : decode cX4_wear 200 = .ok (.aload_n 0, 1) := by decide +kernel
theorem dX4_wear_201 : decode cX4_wear 201 = .ok (.iconst 0, 1) := by decide +kernel
theorem dX4_wear_202 : decode cX4_wear 202 = .ok (.newarray .int, 2) := by decide +kernel
theorem dX4_wear_204 : decode cX4_wear 204 = .ok (.putfield 24, 3) := by decide +kernel
theorem dX4_wear_207 : decode cX4_wear 207 = .ok (.aload_n 3, 1) := by decide +kernel
theorem dX4_wear_208 : decode cX4_wear 208 = .ok (.arraylength, 1) := by decide +kernel
theorem dX4_wear_209 : decode cX4_wear 209 = .ok (.iconst 1, 1) := by decide +kernel
theorem dX4_wear_210 : decode cX4_wear 210 = .ok (.if_icmp .le 125, 3) := by decide +kernel
theorem dX4_wear_213 : decode cX4_wear 213 = .ok (.aload_n 0, 1) := by decide +kernel
theorem dX4_wear_214 : decode cX4_wear 214 = .ok (.aload_n 3, 1) := by decide +kernel
theorem dX4_wear_215 : decode cX4_wear 215 = .ok (.invokevirtual 86, 3) := by decide +kernel
theorem dX4_wear_218 : decode cX4_wear 218 = .ok (.istore 4, 2) := by decide +kernel
theorem dX4_wear_220 : decode cX4_wear 220 = .ok (.aload_n 3, 1) := by decide +kernel
theorem dX4_wear_221 : decode cX4_wear 221 = .ok (.iload 4, 2) := by decide +kernel
theorem dX4_wear_223 : decode cX4_wear 223 = .ok (.invokestatic 90, 3) := by decide +kernel
theorem dX4_wear_226 : decode cX4_wear 226 = .ok (.astore_n 3, 1) := by decide +kernel
theorem dX4_wear_227 : decode cX4_wear 227 = .ok (.aload_n 0, 1) := by decide +kernel
theorem dX4_wear_228 : decode cX4_wear 228 = .ok (.aload_n 3, 1) := by decide +kernel
theorem dX4_wear_229 : decode cX4_wear 229 = .ok (.invokevirtual 86, 3) := by decide +kernel
theorem dX4_wear_232 : decode cX4_wear 232 = .ok (.istore 5, 2) := by decide +kernel
theorem dX4_wear_234 : decode cX4_wear 234 = .ok (.aload_n 3, 1) := by decide +kernel
theorem dX4_wear_235 : decode cX4_wear 235 = .ok (.iload 5, 2) := by decide +kernel
theorem dX4_wear_237 : decode cX4_wear 237 = .ok (.invokestatic 90, 3) := by decide +kernel
theorem dX4_wear_240 : decode cX4_wear 240 = .ok (.astore_n 3, 1) := by decide +kernel
theorem dX4_wear_241 : decode cX4_wear 241 = .ok (.aload_n 0, 1) := by decide +kernel
theorem dX4_wear_242 : decode cX4_wear 242 = .ok (.iconst 2, 1) := by decide +kernel
theorem dX4_wear_243 : decode cX4_wear 243 = .ok (.newarray .int, 2) := by decide +kernel
theorem dX4_wear_245 : decode cX4_wear 245 = .ok (.dup, 1) := by decide +kernel
theorem dX4_wear_246 : decode cX4_wear 246 = .ok (.iconst 0, 1) := by decide +kernel
theorem dX4_wear_247 : decode cX4_wear 247 = .ok (.iload 5, 2) := by decide +kernel
theorem dX4_wear_249 : decode cX4_wear 249 = .ok (.iastore, 1) := by decide +kernel
theorem dX4_wear_250 : decode cX4_wear 250 = .ok (.dup, 1) := by decide +kernel
theorem dX4_wear_251 : decode cX4_wear 251 = .ok (.iconst 1, 1) := by decide +kernel
theorem dX4_wear_252 : decode cX4_wear 252 = .ok (.iload 4, 2) := by decide +kernel
theorem dX4_wear_254 : decode cX4_wear 254 = .ok (.iastore, 1) := by decide +kernel
theorem dX4_wear_255 : decode cX4_wear 255 = .ok (.aload_n 0, 1) := by decide +kernel
theorem dX4_wear_256 : decode cX4_wear 256 = .ok (.getfield 24, 3) := by decide +kernel
theorem dX4_wear_259 : decode cX4_wear 259 = .ok (.invokestatic 58, 3) := by decide +kernel
theorem dX4_wear_262 : decode cX4_wear 262 = .ok (.putfield 24, 3) := by decide +kernel
theorem dX4_wear_265 : decode cX4_wear 265 = .ok (.aload_n 0, 1) := by decide +kernel
theorem dX4_wear_266 : decode cX4_wear 266 = .ok (.aload_n 0, 1) := by decide +kernel
theorem dX4_wear_267 : decode cX4_wear 267 = .ok (.getfield 7, 3) := by decide +kernel
theorem dX4_wear_270 : decode cX4_wear 270 = .ok (.iload 4, 2) := by decide +kernel
theorem dX4_wear_272 : decode cX4_wear 272 = .ok (.iaload, 1) := by decide +kernel
theorem dX4_wear_273 : decode cX4_wear 273 = .ok (.aload_n 0, 1) := by decide +kernel
theorem dX4_wear_274 : decode cX4_wear 274 = .ok (.getfield 7, 3) := by decide +kernel
theorem dX4_wear_277 : decode cX4_wear 277 = .ok (.iload 5, 2) := by decide +kernel
theorem dX4_wear_279 : decode cX4_wear 279 = .ok (.iaload, 1) := by decide +kernel
theorem dX4_wear_280 : decode cX4_wear 280 = .ok (.iadd, 1) := by decide +kernel
theorem dX4_wear_281 : decode cX4_wear 281 = .ok (.iconst (-1), 1) := by decide +kernel
theorem dX4_wear_282 : decode cX4_wear 282 = .ok (.iconst (-1), 1) := by decide +kernel
theorem dX4_wear_283 : decode cX4_wear 283 = .ok (.iconst 2, 1) := by decide +kernel
theorem dX4_wear_284 : decode cX4_wear 284 = .ok (.newarray .int, 2) := by decide +kernel
theorem dX4_wear_286 : decode cX4_wear 286 = .ok (.dup, 1) := by decide +kernel
theorem dX4_wear_287 : decode cX4_wear 287 = .ok (.iconst 0, 1) := by decide +kernel
theorem dX4_wear_288 : decode cX4_wear 288 = .ok (.iload 5, 2) := by decide +kernel
theorem dX4_wear_290 : decode cX4_wear 290 = .ok (.iastore, 1) := by decide +kernel
theorem dX4_wear_291 : decode cX4_wear 291 = .ok (.dup, 1) := by decide +kernel
theorem dX4_wear_292 : decode cX4_wear 292 = .ok (.iconst 1, 1) := by decide +kernel
theorem dX4_wear_293 : decode cX4_wear 293 = .ok (.iload 4, 2) := by decide +kernel
theorem dX4_wear_295 : decode cX4_wear 295 = .ok (.iastore, 1) := by decide +kernel
theorem dX4_wear_296 : decode cX4_wear 296 = .ok (.invokevirtual 71, 3) := by decide +kernel
theorem dX4_wear_299 : decode cX4_wear 299 = .ok (.istore 6, 2) := by decide +kernel
theorem dX4_wear_301 : decode cX4_wear 301 = .ok (.aload_n 0, 1) := by decide +kernel
theorem dX4_wear_302 : decode cX4_wear 302 = .ok (.getfield 16, 3) := by decide +kernel
theorem dX4_wear_305 : decode cX4_wear 305 = .ok (.iload 4, 2) := by decide +kernel
theorem dX4_wear_307 : decode cX4_wear 307 = .ok (.iload 6, 2) := by decide +kernel
theorem dX4_wear_309 : decode cX4_wear 309 = .ok (.iastore, 1) := by decide +kernel
theorem dX4_wear_310 : decode cX4_wear 310 = .ok (.aload_n 0, 1) := by decide +kernel
theorem dX4_wear_311 : decode cX4_wear 311 = .ok (.getfield 16, 3) := by decide +kernel
theorem dX4_wear_314 : decode cX4_wear 314 = .ok (.iload 5, 2) := by decide +kernel
theorem dX4_wear_316 : decode cX4_wear 316 = .ok (.iload 6, 2) := by decide +kernel
theorem dX4_wear_318 : decode cX4_wear 318 = .ok (.iastore, 1) := by decide +kernel
theorem dX4_wear_319 : decode cX4_wear 319 = .ok (.aload_n 3, 1) := by decide +kernel
theorem dX4_wear_320 : decode cX4_wear 320 = .ok (.iconst 1, 1) := by decide +kernel
theorem dX4_wear_321 : decode cX4_wear 321 = .ok (.newarray .int, 2) := by decide +kernel
theorem dX4_wear_323 : decode cX4_wear 323 = .ok (.dup, 1) := by decide +kernel
theorem dX4_wear_324 : decode cX4_wear 324 = .ok (.iconst 0, 1) := by decide +kernel
theorem dX4_wear_325 : decode cX4_wear 325 = .ok (.iload 6, 2) := by decide +kernel
theorem dX4_wear_327 : decode cX4_wear 327 = .ok (.iastore, 1) := by decide +kernel
theorem dX4_wear_328 : decode cX4_wear 328 = .ok (.invokestatic 58, 3) := by decide +kernel
theorem dX4_wear_331 : decode cX4_wear 331 = .ok (.astore_n 3, 1) := by decide +kernel
theorem dX4_wear_332 : decode cX4_wear 332 = .ok (.goto (-125), 3) := by decide +kernel
theorem dX4_wear_335 : decode cX4_wear 335 = .ok (.aload_n 0, 1) := by decide +kernel
theorem dX4_wear_336 : decode cX4_wear 336 = .ok (.aload_n 3, 1) := by decide +kernel
theorem dX4_wear_337 : decode cX4_wear 337 = .ok (.aload_n 0, 1) := by decide +kernel
theorem dX4_wear_338 : decode cX4_wear 338 = .ok (.getfield 24, 3) := by decide +kernel
theorem dX4_wear_341 : decode cX4_wear 341 = .ok (.invokestatic 58, 3) := by decide +kernel
theorem dX4_wear_344 : decode cX4_wear 344 = .ok (.putfield 24, 3) := by decide +kernel
theorem dX4_wear_347 : decode cX4_wear 347 = .ok (.aload_n 0, 1) := by decide +kernel
theorem dX4_wear_348 : decode cX4_wear 348 = .ok (.dup, 1) := by decide +kernel
theorem dX4_wear_349 : decode cX4_wear 349 = .ok (.getfield 45, 3) := by decide +kernel
theorem dX4_wear_352 : decode cX4_wear 352 = .ok (.iconst 1, 1) := by decide +kernel
theorem dX4_wear_353 : decode cX4_wear 353 = .ok (.iadd, 1) := by decide +kernel
theorem dX4_wear_354 : decode cX4_wear 354 = .ok (.putfield 45, 3) := by decide +kernel
theorem dX4_wear_357 : decode cX4_wear 357 = .ok (.iload_n 2, 1) := by decide +kernel
theorem dX4_wear_358 : decode cX4_wear 358 = .ok (.ireturn, 1) := by decide +kernel
theorem dX4_lightest_0 : decode cX4_lightest 0 = .ok (.aload_n 1, 1) := by decide +kernel
theorem dX4_lightest_1 : decode cX4_lightest 1 = .ok (.iconst 0, 1) := by decide +kernel
theorem dX4_lightest_2 : decode cX4_lightest 2 = .ok (.iaload, 1) := by decide +kernel
theorem dX4_lightest_3 : decode cX4_lightest 3 = .ok (.istore_n 2, 1) := by decide +kernel
theorem dX4_lightest_4 : decode cX4_lightest 4 = .ok (.aload_n 1, 1) := by decide +kernel
theorem dX4_lightest_5 : decode cX4_lightest 5 = .ok (.astore_n 3, 1) := by decide +kernel
theorem dX4_lightest_6 : decode cX4_lightest 6 = .ok (.aload_n 3, 1) := by decide +kernel
theorem dX4_lightest_7 : decode cX4_lightest 7 = .ok (.arraylength, 1) := by decide +kernel
theorem dX4_lightest_8 : decode cX4_lightest 8 = .ok (.istore 4, 2) := by decide +kernel
theorem dX4_lightest_10 : decode cX4_lightest 10 = .ok (.iconst 0, 1) := by decide +kernel
theorem dX4_lightest_11 : decode cX4_lightest 11 = .ok (.istore 5, 2) := by decide +kernel
theorem dX4_lightest_13 : decode cX4_lightest 13 = .ok (.iload 5, 2) := by decide +kernel
theorem dX4_lightest_15 : decode cX4_lightest 15 = .ok (.iload 4, 2) := by decide +kernel
theorem dX4_lightest_17 : decode cX4_lightest 17 = .ok (.if_icmp .ge 34, 3) := by decide +kernel
theorem dX4_lightest_20 : decode cX4_lightest 20 = .ok (.aload_n 3, 1) := by decide +kernel
theorem dX4_lightest_21 : decode cX4_lightest 21 = .ok (.iload 5, 2) := by decide +kernel
theorem dX4_lightest_23 : decode cX4_lightest 23 = .ok (.iaload, 1) := by decide +kernel
theorem dX4_lightest_24 : decode cX4_lightest 24 = .ok (.istore 6, 2) := by decide +kernel
theorem dX4_lightest_26 : decode cX4_lightest 26 = .ok (.aload_n 0, 1) := by decide +kernel
theorem dX4_lightest_27 : decode cX4_lightest 27 = .ok (.getfield 7, 3) := by decide +kernel
theorem dX4_lightest_30 : decode cX4_lightest 30 = .ok (.iload 6, 2) := by decide +kernel
theorem dX4_lightest_32 : decode cX4_lightest 32 = .ok (.iaload, 1) := by decide +kernel
theorem dX4_lightest_33 : decode cX4_lightest 33 = .ok (.aload_n 0, 1) := by decide +kernel
theorem dX4_lightest_34 : decode cX4_lightest 34 = .ok (.getfield 7, 3) := by decide +kernel
theorem dX4_lightest_37 : decode cX4_lightest 37 = .ok (.iload_n 2, 1) := by decide +kernel
theorem dX4_lightest_38 : decode cX4_lightest 38 = .ok (.iaload, 1) := by decide +kernel
theorem dX4_lightest_39 : decode cX4_lightest 39 = .ok (.if_icmp .ge 6, 3) := by decide +kernel
theorem dX4_lightest_42 : decode cX4_lightest 42 = .ok (.iload 6, 2) := by decide +kernel
theorem dX4_lightest_44 : decode cX4_lightest 44 = .ok (.istore_n 2, 1) := by decide +kernel
theorem dX4_lightest_45 : decode cX4_lightest 45 = .ok (.iinc 5 1, 3) := by decide +kernel
theorem dX4_lightest_48 : decode cX4_lightest 48 = .ok (.goto (-35), 3) := by decide +kernel
theorem dX4_lightest_51 : decode cX4_lightest 51 = .ok (.iload_n 2, 1) := by decide +kernel
theorem dX4_lightest_52 : decode cX4_lightest 52 = .ok (.ireturn, 1) := by decide +kernel
set_option maxRecDepth 20000 in
theorem ggX4_without_X4_more : GoodIn wsX4_without wsX4_more := goodIn_r _ [5, 1] (by decide +kernel) (by decide +kernel)
set_option maxRecDepth 20000 in
theorem gX4_without_X4_more : GoodIn wsX4_without (va_wsS RX4 58 yX4_more wsX4_more) := goodIn_app (goodIn_of _ (by decide +kernel)) ggX4_without_X4_more
theorem dX4_without_0 : decode cX4_without 0 = .ok (.iconst 0, 1) := by decide +kernel
theorem dX4_without_1 : decode cX4_without 1 = .ok (.newarray .int, 2) := by decide +kernel
theorem dX4_without_3 : decode cX4_without 3 = .ok (.astore_n 2, 1) := by decide +kernel
theorem dX4_without_4 : decode cX4_without 4 = .ok (.aload_n 0, 1) := by decide +kernel
theorem dX4_without_5 : decode cX4_without 5 = .ok (.astore_n 3, 1) := by decide +kernel
theorem dX4_without_6 : decode cX4_without 6 = .ok (.aload_n 3, 1) := by decide +kernel
theorem dX4_without_7 : decode cX4_without 7 = .ok (.arraylength, 1) := by decide +kernel
theorem dX4_without_8 : decode cX4_without 8 = .ok (.istore 4, 2) := by decide +kernel
theorem dX4_without_10 : decode cX4_without 10 = .ok (.iconst 0, 1) := by decide +kernel
theorem dX4_without_11 : decode cX4_without 11 = .ok (.istore 5, 2) := by decide +kernel
theorem dX4_without_13 : decode cX4_without 13 = .ok (.iload 5, 2) := by decide +kernel
theorem dX4_without_15 : decode cX4_without 15 = .ok (.iload 4, 2) := by decide +kernel
theorem dX4_without_17 : decode cX4_without 17 = .ok (.if_icmp .ge 34, 3) := by decide +kernel
theorem dX4_without_20 : decode cX4_without 20 = .ok (.aload_n 3, 1) := by decide +kernel
theorem dX4_without_21 : decode cX4_without 21 = .ok (.iload 5, 2) := by decide +kernel
theorem dX4_without_23 : decode cX4_without 23 = .ok (.iaload, 1) := by decide +kernel
theorem dX4_without_24 : decode cX4_without 24 = .ok (.istore 6, 2) := by decide +kernel
theorem dX4_without_26 : decode cX4_without 26 = .ok (.iload 6, 2) := by decide +kernel
theorem dX4_without_28 : decode cX4_without 28 = .ok (.iload_n 1, 1) := by decide +kernel
theorem dX4_without_29 : decode cX4_without 29 = .ok (.if_icmp .eq 16, 3) := by decide +kernel
theorem dX4_without_32 : decode cX4_without 32 = .ok (.aload_n 2, 1) := by decide +kernel
theorem dX4_without_33 : decode cX4_without 33 = .ok (.iconst 1, 1) := by decide +kernel
theorem dX4_without_34 : decode cX4_without 34 = .ok (.newarray .int, 2) := by decide +kernel
theorem dX4_without_36 : decode cX4_without 36 = .ok (.dup, 1) := by decide +kernel
theorem dX4_without_37 : decode cX4_without 37 = .ok (.iconst 0, 1) := by decide +kernel
theorem dX4_without_38 : decode cX4_without 38 = .ok (.iload 6, 2) := by decide +kernel
theorem dX4_without_40 : decode cX4_without 40 = .ok (.iastore, 1) := by decide +kernel
theorem dX4_without_41 : decode cX4_without 41 = .ok (.invokestatic 58, 3) := by decide +kernel
theorem dX4_without_44 : decode cX4_without 44 = .ok (.astore_n 2, 1) := by decide +kernel
theorem dX4_without_45 : decode cX4_without 45 = .ok (.iinc 5 1, 3) := by decide +kernel
theorem dX4_without_48 : decode cX4_without 48 = .ok (.goto (-35), 3) := by decide +kernel
theorem dX4_without_51 : decode cX4_without 51 = .ok (.aload_n 2, 1) := by decide +kernel
theorem dX4_without_52 : decode cX4_without 52 = .ok (.areturn, 1) := by decide +kernel
set_option maxRecDepth 20000 in
theorem ggX4_byLength_X4_length : GoodIn wsX4_byLength wsX4_length := goodIn_r _ [7, 8, 3, 4, 5, 6, 9, 10, 11, 12, 13, 14, 15, 16, 17, 18] (by decide +kernel) (by decide +kernel)
set_option maxRecDepth 20000 in
theorem gX4_byLength_X4_length : GoodIn wsX4_byLength (wsV RX4 48 RX4 yX4_length wsX4_length) := goodIn_app (goodIn_of _ (by decide +kernel)) ggX4_byLength_X4_length
theorem dX4_byLength_0 : decode cX4_byLength 0 = .ok (.aload_n 0, 1) := by decide +kernel
theorem dX4_byLength_1 : decode cX4_byLength 1 = .ok (.iload_n 1, 1) := by decide +kernel
theorem dX4_byLength_2 : decode cX4_byLength 2 = .ok (.invokevirtual 48, 3) := by decide +kernel
theorem dX4_byLength_5 : decode cX4_byLength 5 = .ok (.istore_n 2, 1) := by decide +kernel
theorem dX4_byLength_6 : decode cX4_byLength 6 = .ok (.iconst 0, 1) := by decide +kernel
theorem dX4_byLength_7 : decode cX4_byLength 7 = .ok (.istore_n 3, 1) := by decide +kernel
theorem dX4_byLength_8 : decode cX4_byLength 8 = .ok (.aload_n 0, 1) := by decide +kernel
theorem dX4_byLength_9 : decode cX4_byLength 9 = .ok (.getfield 24, 3) := by decide +kernel
theorem dX4_byLength_12 : decode cX4_byLength 12 = .ok (.astore 4, 2) := by decide +kernel
theorem dX4_byLength_14 : decode cX4_byLength 14 = .ok (.aload 4, 2) := by decide +kernel
theorem dX4_byLength_16 : decode cX4_byLength 16 = .ok (.arraylength, 1) := by decide +kernel
theorem dX4_byLength_17 : decode cX4_byLength 17 = .ok (.istore 5, 2) := by decide +kernel
theorem dX4_byLength_19 : decode cX4_byLength 19 = .ok (.iconst 0, 1) := by decide +kernel
theorem dX4_byLength_20 : decode cX4_byLength 20 = .ok (.istore 6, 2) := by decide +kernel
theorem dX4_byLength_22 : decode cX4_byLength 22 = .ok (.iload 6, 2) := by decide +kernel
theorem dX4_byLength_24 : decode cX4_byLength 24 = .ok (.iload 5, 2) := by decide +kernel
theorem dX4_byLength_26 : decode cX4_byLength 26 = .ok (.if_icmp .ge 80, 3) := by decide +kernel
theorem dX4_byLength_29 : decode cX4_byLength 29 = .ok (.aload 4, 2) := by decide +kernel
theorem dX4_byLength_31 : decode cX4_byLength 31 = .ok (.iload 6, 2) := by decide +kernel
theorem dX4_byLength_33 : decode cX4_byLength 33 = .ok (.iaload, 1) := by decide +kernel
theorem dX4_byLength_34 : decode cX4_byLength 34 = .ok (.istore 7, 2) := by decide +kernel
theorem dX4_byLength_36 : decode cX4_byLength 36 = .ok (.aload_n 0, 1) := by decide +kernel
theorem dX4_byLength_37 : decode cX4_byLength 37 = .ok (.getfield 13, 3) := by decide +kernel
theorem dX4_byLength_40 : decode cX4_byLength 40 = .ok (.iload 7, 2) := by decide +kernel
theorem dX4_byLength_42 : decode cX4_byLength 42 = .ok (.iaload, 1) := by decide +kernel
theorem dX4_byLength_43 : decode cX4_byLength 43 = .ok (.ifCond .lt 57, 3) := by decide +kernel
theorem dX4_byLength_46 : decode cX4_byLength 46 = .ok (.iload 7, 2) := by decide +kernel
theorem dX4_byLength_48 : decode cX4_byLength 48 = .ok (.iload_n 1, 1) := by decide +kernel
theorem dX4_byLength_49 : decode cX4_byLength 49 = .ok (.if_icmp .ne 6, 3) := by decide +kernel
theorem dX4_byLength_52 : decode cX4_byLength 52 = .ok (.goto 48, 3) := by decide +kernel
theorem dX4_byLength_55 : decode cX4_byLength 55 = .ok (.aload_n 0, 1) := by decide +kernel
theorem dX4_byLength_56 : decode cX4_byLength 56 = .ok (.iload 7, 2) := by decide +kernel
theorem dX4_byLength_58 : decode cX4_byLength 58 = .ok (.invokevirtual 48, 3) := by decide +kernel
theorem dX4_byLength_61 : decode cX4_byLength 61 = .ok (.istore 8, 2) := by decide +kernel
theorem dX4_byLength_63 : decode cX4_byLength 63 = .ok (.iload 8, 2) := by decide +kernel
theorem dX4_byLength_65 : decode cX4_byLength 65 = .ok (.iload_n 2, 1) := by decide +kernel
theorem dX4_byLength_66 : decode cX4_byLength 66 = .ok (.if_icmp .lt 25, 3) := by decide +kernel
theorem dX4_byLength_69 : decode cX4_byLength 69 = .ok (.iload 8, 2) := by decide +kernel
theorem dX4_byLength_71 : decode cX4_byLength 71 = .ok (.iload_n 2, 1) := by decide +kernel
theorem dX4_byLength_72 : decode cX4_byLength 72 = .ok (.if_icmp .ne 28, 3) := by decide +kernel
theorem dX4_byLength_75 : decode cX4_byLength 75 = .ok (.aload_n 0, 1) := by decide +kernel
theorem dX4_byLength_76 : decode cX4_byLength 76 = .ok (.getfield 13, 3) := by decide +kernel
theorem dX4_byLength_79 : decode cX4_byLength 79 = .ok (.iload 7, 2) := by decide +kernel
theorem dX4_byLength_81 : decode cX4_byLength 81 = .ok (.iaload, 1) := by decide +kernel
theorem dX4_byLength_82 : decode cX4_byLength 82 = .ok (.aload_n 0, 1) := by decide +kernel
theorem dX4_byLength_83 : decode cX4_byLength 83 = .ok (.getfield 13, 3) := by decide +kernel
theorem dX4_byLength_86 : decode cX4_byLength 86 = .ok (.iload_n 1, 1) := by decide +kernel
theorem dX4_byLength_87 : decode cX4_byLength 87 = .ok (.iaload, 1) := by decide +kernel
theorem dX4_byLength_88 : decode cX4_byLength 88 = .ok (.if_icmp .ge 12, 3) := by decide +kernel
theorem dX4_byLength_91 : decode cX4_byLength 91 = .ok (.iload_n 3, 1) := by decide +kernel
theorem dX4_byLength_92 : decode cX4_byLength 92 = .ok (.iconst 1, 1) := by decide +kernel
theorem dX4_byLength_93 : decode cX4_byLength 93 = .ok (.iload_n 2, 1) := by decide +kernel
theorem dX4_byLength_94 : decode cX4_byLength 94 = .ok (.iload 8, 2) := by decide +kernel
theorem dX4_byLength_96 : decode cX4_byLength 96 = .ok (.isub, 1) := by decide +kernel
theorem dX4_byLength_97 : decode cX4_byLength 97 = .ok (.ishl, 1) := by decide +kernel
theorem dX4_byLength_98 : decode cX4_byLength 98 = .ok (.iadd, 1) := by decide +kernel
theorem dX4_byLength_99 : decode cX4_byLength 99 = .ok (.istore_n 3, 1) := by decide +kernel
theorem dX4_byLength_100 : decode cX4_byLength 100 = .ok (.iinc 6 1, 3) := by decide +kernel
theorem dX4_byLength_103 : decode cX4_byLength 103 = .ok (.goto (-81), 3) := by decide +kernel
theorem dX4_byLength_106 : decode cX4_byLength 106 = .ok (.iload_n 3, 1) := by decide +kernel
theorem dX4_byLength_107 : decode cX4_byLength 107 = .ok (.ireturn, 1) := by decide +kernel
theorem dX4_known_0 : decode cX4_known 0 = .ok (.aload_n 0, 1) := by decide +kernel
theorem dX4_known_1 : decode cX4_known 1 = .ok (.getfield 24, 3) := by decide +kernel
theorem dX4_known_4 : decode cX4_known 4 = .ok (.arraylength, 1) := by decide +kernel
theorem dX4_known_5 : decode cX4_known 5 = .ok (.iconst 1, 1) := by decide +kernel
theorem dX4_known_6 : decode cX4_known 6 = .ok (.isub, 1) := by decide +kernel
theorem dX4_known_7 : decode cX4_known 7 = .ok (.iconst 2, 1) := by decide +kernel
theorem dX4_known_8 : decode cX4_known 8 = .ok (.idiv, 1) := by decide +kernel
theorem dX4_known_9 : decode cX4_known 9 = .ok (.ireturn, 1) := by decide +kernel
set_option maxRecDepth 20000 in
theorem ggX4_isLeaf_X4_length : GoodIn wsX4_isLeaf wsX4_length := goodIn_r _ [7, 8, 3, 4, 5, 6, 24, 25, 26, 27, 28, 29, 30, 31, 32, 33] (by decide +kernel) (by decide +kernel)
set_option maxRecDepth 20000 in
theorem gX4_isLeaf_X4_length : GoodIn wsX4_isLeaf (wsV RX4 48 RX4 yX4_length wsX4_length) := goodIn_app (goodIn_of _ (by decide +kernel)) ggX4_isLeaf_X4_length
set_option maxRecDepth 20000 in
theorem ggX4_isLeaf_X4_code : GoodIn wsX4_isLeaf wsX4_code := goodIn_r _ [12, 8, 13, 9, 10, 11, 6, 24, 25, 26, 27, 28, 29, 30, 31, 32, 33] (by decide +kernel) (by decide +kernel)
set_option maxRecDepth 20000 in
theorem gX4_isLeaf_X4_code : GoodIn wsX4_isLeaf (wsV RX4 52 RX4 yX4_code wsX4_code) := goodIn_app (goodIn_of _ (by decide +kernel)) ggX4_isLeaf_X4_code
set_option maxRecDepth 20000 in
theorem ggX4_isLeaf_X4_byLength : GoodIn wsX4_isLeaf wsX4_byLength := goodIn_r _ [17, 18, 19, 3, 4, 5, 6, 7, 8, 24, 25, 26, 27, 28, 29, 30, 31, 32, 33] (by decide +kernel) (by decide +kernel)
set_option maxRecDepth 20000 in
theorem gX4_isLeaf_X4_byLength : GoodIn wsX4_isLeaf (wsV RX4 94 RX4 yX4_byLength wsX4_byLength) := goodIn_app (goodIn_of _ (by decide +kernel)) ggX4_isLeaf_X4_byLength
set_option maxRecDepth 20000 in
theorem ggX4_isLeaf_X4_place : GoodIn wsX4_isLeaf wsX4_place := goodIn_r _ [23, 18, 24, 25, 26, 27, 28, 29, 30, 31, 32, 33] (by decide +kernel) (by decide +kernel)
set_option maxRecDepth 20000 in
theorem gX4_isLeaf_X4_place : GoodIn wsX4_isLeaf (wsV RX4 65 RX4 yX4_place wsX4_place) := goodIn_app (goodIn_of _ (by decide +kernel)) ggX4_isLeaf_X4_place
theorem dX4_isLeaf_0 : decode cX4_isLeaf 0 = .ok (.iconst 5, 1) := by decide +kernel
theorem dX4_isLeaf_1 : decode cX4_isLeaf 1 = .ok (.newarray .int, 2) := by decide +kernel
theorem dX4_isLeaf_3 : decode cX4_isLeaf 3 = .ok (.dup, 1) := by decide +kernel
theorem dX4_isLeaf_4 : decode cX4_isLeaf 4 = .ok (.iconst 0, 1) := by decide +kernel
theorem dX4_isLeaf_5 : decode cX4_isLeaf 5 = .ok (.iload_n 1, 1) := by decide +kernel
theorem dX4_isLeaf_6 : decode cX4_isLeaf 6 = .ok (.ifCond .ge 7, 3) := by decide +kernel
theorem dX4_isLeaf_9 : decode cX4_isLeaf 9 = .ok (.iconst (-1), 1) := by decide +kernel
theorem dX4_isLeaf_10 : decode cX4_isLeaf 10 = .ok (.goto 9, 3) := by decide +kernel
theorem dX4_isLeaf_13 : decode cX4_isLeaf 13 = .ok (.aload_n 0, 1) := by decide +kernel
theorem dX4_isLeaf_14 : decode cX4_isLeaf 14 = .ok (.getfield 7, 3) := by decide +kernel
theorem dX4_isLeaf_17 : decode cX4_isLeaf 17 = .ok (.iload_n 1, 1) := by decide +kernel
theorem dX4_isLeaf_18 : decode cX4_isLeaf 18 = .ok (.iaload, 1) := by decide +kernel
theorem dX4_isLeaf_19 : decode cX4_isLeaf 19 = .ok (.iastore, 1) := by decide +kernel
theorem dX4_isLeaf_20 : decode cX4_isLeaf 20 = .ok (.dup, 1) := by decide +kernel
theorem dX4_isLeaf_21 : decode cX4_isLeaf 21 = .ok (.iconst 1, 1) := by decide +kernel
theorem dX4_isLeaf_22 : decode cX4_isLeaf 22 = .ok (.iload_n 1, 1) := by decide +kernel
theorem dX4_isLeaf_23 : decode cX4_isLeaf 23 = .ok (.ifCond .ge 7, 3) := by decide +kernel
theorem dX4_isLeaf_26 : decode cX4_isLeaf 26 = .ok (.iconst (-1), 1) := by decide +kernel
theorem dX4_isLeaf_27 : decode cX4_isLeaf 27 = .ok (.goto 8, 3) := by decide +kernel
theorem dX4_isLeaf_30 : decode cX4_isLeaf 30 = .ok (.aload_n 0, 1) := by decide +kernel
theorem dX4_isLeaf_31 : decode cX4_isLeaf 31 = .ok (.iload_n 1, 1) := by decide +kernel
theorem dX4_isLeaf_32 : decode cX4_isLeaf 32 = .ok (.invokevirtual 48, 3) := by decide +kernel
theorem dX4_isLeaf_35 : decode cX4_isLeaf 35 = .ok (.iastore, 1) := by decide +kernel
theorem dX4_isLeaf_36 : decode cX4_isLeaf 36 = .ok (.dup, 1) := by decide +kernel
theorem dX4_isLeaf_37 : decode cX4_isLeaf 37 = .ok (.iconst 2, 1) := by decide +kernel
theorem dX4_isLeaf_38 : decode cX4_isLeaf 38 = .ok (.iload_n 1, 1) := by decide +kernel
theorem dX4_isLeaf_39 : decode cX4_isLeaf 39 = .ok (.ifCond .ge 7, 3) := by decide +kernel
theorem dX4_isLeaf_42 : decode cX4_isLeaf 42 = .ok (.iconst (-1), 1) := by decide +kernel
theorem dX4_isLeaf_43 : decode cX4_isLeaf 43 = .ok (.goto 8, 3) := by decide +kernel
theorem dX4_isLeaf_46 : decode cX4_isLeaf 46 = .ok (.aload_n 0, 1) := by decide +kernel
theorem dX4_isLeaf_47 : decode cX4_isLeaf 47 = .ok (.iload_n 1, 1) := by decide +kernel
theorem dX4_isLeaf_48 : decode cX4_isLeaf 48 = .ok (.invokevirtual 52, 3) := by decide +kernel
theorem dX4_isLeaf_51 : decode cX4_isLeaf 51 = .ok (.iastore, 1) := by decide +kernel
theorem dX4_isLeaf_52 : decode cX4_isLeaf 52 = .ok (.dup, 1) := by decide +kernel
theorem dX4_isLeaf_53 : decode cX4_isLeaf 53 = .ok (.iconst 3, 1) := by decide +kernel
theorem dX4_isLeaf_54 : decode cX4_isLeaf 54 = .ok (.iload_n 1, 1) := by decide +kernel
theorem dX4_isLeaf_55 : decode cX4_isLeaf 55 = .ok (.ifCond .ge 7, 3) := by decide +kernel
theorem dX4_isLeaf_58 : decode cX4_isLeaf 58 = .ok (.iconst (-1), 1) := by decide +kernel
theorem dX4_isLeaf_59 : decode cX4_isLeaf 59 = .ok (.goto 8, 3) := by decide +kernel
theorem dX4_isLeaf_62 : decode cX4_isLeaf 62 = .ok (.aload_n 0, 1) := by decide +kernel
theorem dX4_isLeaf_63 : decode cX4_isLeaf 63 = .ok (.iload_n 1, 1) := by decide +kernel
theorem dX4_isLeaf_64 : decode cX4_isLeaf 64 = .ok (.invokevirtual 94, 3) := by decide +kernel
theorem dX4_isLeaf_67 : decode cX4_isLeaf 67 = .ok (.iastore, 1) := by decide +kernel
theorem dX4_isLeaf_68 : decode cX4_isLeaf 68 = .ok (.dup, 1) := by decide +kernel
theorem dX4_isLeaf_69 : decode cX4_isLeaf 69 = .ok (.iconst 4, 1) := by decide +kernel
theorem dX4_isLeaf_70 : decode cX4_isLeaf 70 = .ok (.iload_n 1, 1) := by decide +kernel
theorem dX4_isLeaf_71 : decode cX4_isLeaf 71 = .ok (.ifCond .ge 7, 3) := by decide +kernel
theorem dX4_isLeaf_74 : decode cX4_isLeaf 74 = .ok (.iconst (-1), 1) := by decide +kernel
theorem dX4_isLeaf_75 : decode cX4_isLeaf 75 = .ok (.goto 8, 3) := by decide +kernel
theorem dX4_isLeaf_78 : decode cX4_isLeaf 78 = .ok (.aload_n 0, 1) := by decide +kernel
theorem dX4_isLeaf_79 : decode cX4_isLeaf 79 = .ok (.iload_n 1, 1) := by decide +kernel
theorem dX4_isLeaf_80 : decode cX4_isLeaf 80 = .ok (.invokevirtual 65, 3) := by decide +kernel
theorem dX4_isLeaf_83 : decode cX4_isLeaf 83 = .ok (.iastore, 1) := by decide +kernel
theorem dX4_isLeaf_84 : decode cX4_isLeaf 84 = .ok (.astore_n 3, 1) := by decide +kernel
theorem dX4_isLeaf_85 : decode cX4_isLeaf 85 = .ok (.iconst 0, 1) := by decide +kernel
theorem dX4_isLeaf_86 : decode cX4_isLeaf 86 = .ok (.istore 4, 2) := by decide +kernel
theorem dX4_isLeaf_88 : decode cX4_isLeaf 88 = .ok (.iload 4, 2) := by decide +kernel
theorem dX4_isLeaf_90 : decode cX4_isLeaf 90 = .ok (.iconst 5, 1) := by decide +kernel
theorem dX4_isLeaf_91 : decode cX4_isLeaf 91 = .ok (.if_icmp .ge 22, 3) := by decide +kernel
theorem dX4_isLeaf_94 : decode cX4_isLeaf 94 = .ok (.aload_n 3, 1) := by decide +kernel
theorem dX4_isLeaf_95 : decode cX4_isLeaf 95 = .ok (.iload 4, 2) := by decide +kernel
theorem dX4_isLeaf_97 : decode cX4_isLeaf 97 = .ok (.iaload, 1) := by decide +kernel
theorem dX4_isLeaf_98 : decode cX4_isLeaf 98 = .ok (.aload_n 2, 1) := by decide +kernel
theorem dX4_isLeaf_99 : decode cX4_isLeaf 99 = .ok (.iload 4, 2) := by decide +kernel
theorem dX4_isLeaf_101 : decode cX4_isLeaf 101 = .ok (.iaload, 1) := by decide +kernel
theorem dX4_isLeaf_102 : decode cX4_isLeaf 102 = .ok (.if_icmp .eq 5, 3) := by decide +kernel
theorem dX4_isLeaf_105 : decode cX4_isLeaf 105 = .ok (.iconst 0, 1) := by decide +kernel
theorem dX4_isLeaf_106 : decode cX4_isLeaf 106 = .ok (.ireturn, 1) := by decide +kernel
theorem dX4_isLeaf_107 : decode cX4_isLeaf 107 = .ok (.iinc 4 1, 3) := by decide +kernel
theorem dX4_isLeaf_110 : decode cX4_isLeaf 110 = .ok (.goto (-22), 3) := by decide +kernel
theorem dX4_isLeaf_113 : decode cX4_isLeaf 113 = .ok (.iconst 1, 1) := by decide +kernel
theorem dX4_isLeaf_114 : decode cX4_isLeaf 114 = .ok (.ireturn, 1) := by decide +kernel
set_option maxRecDepth 20000 in
theorem ggX4_isSame_X4_known : GoodIn wsX4_isSame wsX4_known := goodIn_r _ [16, 2, 127, 128, 129, 130, 131, 132, 133, 134, 135, 136] (by decide +kernel) (by decide +kernel)
set_option maxRecDepth 20000 in
theorem gX4_isSame_X4_known : GoodIn wsX4_isSame (wsV RX4 97 RX4 yX4_known wsX4_known) := goodIn_app (goodIn_of _ (by decide +kernel)) ggX4_isSame_X4_known
set_option maxRecDepth 20000 in
theorem ggX4_isSame_X3_count : GoodIn wsX4_isSame wsX3_count := goodIn_ca (goodIn_r _ [21, 22, 23, 24, 20, 25, 26, 27, 28, 29, 30, 31, 32, 33, 34, 35, 36, 37, 38, 39, 40, 41, 42, 43, 44, 45, 46, 137, 138, 139, 140, 141, 142, 143, 144, 145, 146, 147, 148, 149, 150, 151] (by decide +kernel) (by decide +kernel)) (goodIn_sub (fun _ h => List.mem_cons_of_mem _ (List.mem_append_right _ h)) (by decide +kernel))
set_option maxRecDepth 20000 in
theorem gX4_isSame_X3_count : GoodIn wsX4_isSame (wsV RX4 100 RX3 yX3_count wsX3_count) := goodIn_app (goodIn_of _ (by decide +kernel)) ggX4_isSame_X3_count
set_option maxRecDepth 20000 in
theorem ggX4_isSame_X3_node : GoodIn wsX4_isSame wsX3_node := goodIn_ca (goodIn_r _ [50, 22, 23, 24, 20, 25, 26, 27, 51, 37, 52, 53, 44, 54, 55, 56, 45, 46, 137, 138, 139, 140, 141, 142, 143, 144, 145, 146, 147, 148, 149, 150, 151] (by decide +kernel) (by decide +kernel)) (goodIn_sub (fun _ h => List.mem_cons_of_mem _ (List.mem_append_right _ h)) (by decide +kernel))
set_option maxRecDepth 20000 in
theorem gX4_isSame_X3_node : GoodIn wsX4_isSame (wsV RX4 105 RX3 yX3_node wsX3_node) := goodIn_app (goodIn_of _ (by decide +kernel)) ggX4_isSame_X3_node
set_option maxRecDepth 20000 in
theorem ggX4_isSame_X4_place : GoodIn wsX4_isSame wsX4_place := goodIn_r _ [60, 2, 127, 128, 129, 130, 131, 132, 133, 134, 135, 136] (by decide +kernel) (by decide +kernel)
set_option maxRecDepth 20000 in
theorem gX4_isSame_X4_place : GoodIn wsX4_isSame (wsV RX4 65 RX4 yX4_place wsX4_place) := goodIn_app (goodIn_of _ (by decide +kernel)) ggX4_isSame_X4_place
set_option maxRecDepth 20000 in
theorem ggX4_isSame_X3_told : GoodIn wsX4_isSame wsX3_told := goodIn_ca (goodIn_r _ [64, 22, 23, 24, 20, 25, 26, 27, 65, 29, 66, 67, 32, 68, 37, 69, 70, 71, 45, 46, 72, 73, 74, 55, 75, 76, 77, 44, 78, 79, 80, 81, 82, 56, 83, 84, 85, 86, 137, 138, 139, 140, 141, 142, 143, 144, 145, 146, 147, 148, 149, 150, 151] (by decide +kernel) (by decide +kernel)) (goodIn_sub (fun _ h => List.mem_cons_of_mem _ (List.mem_append_right _ h)) (by decide +kernel))
set_option maxRecDepth 20000 in
theorem gX4_isSame_X3_told : GoodIn wsX4_isSame (wsV RX4 109 RX3 yX3_told wsX3_told) := goodIn_app (goodIn_of _ (by decide +kernel)) ggX4_isSame_X3_told
set_option maxRecDepth 20000 in
theorem ggX4_isSame_X4_leaf : GoodIn wsX4_isSame wsX4_leaf := goodIn_r _ [90, 2, 9, 127, 128, 129, 130, 131, 132, 133, 134, 135, 136] (by decide +kernel) (by decide +kernel)
set_option maxRecDepth 20000 in
theorem gX4_isSame_X4_leaf : GoodIn wsX4_isSame (wsV RX4 55 RX4 yX4_leaf wsX4_leaf) := goodIn_app (goodIn_of _ (by decide +kernel)) ggX4_isSame_X4_leaf
set_option maxRecDepth 20000 in
theorem ggX4_isSame_X4_isLeaf : GoodIn wsX4_isSame wsX4_isLeaf := goodIn_r _ [94, 1, 3, 95, 96, 97, 15, 98, 10, 99, 100, 101, 102, 11, 103, 104, 105, 106, 2, 9, 57, 58, 59, 60, 127, 128, 129, 130, 131, 132, 133, 134, 135, 136] (by decide +kernel) (by decide +kernel)
set_option maxRecDepth 20000 in
theorem gX4_isSame_X4_isLeaf : GoodIn wsX4_isSame (wsV RX4 112 RX4 yX4_isLeaf wsX4_isLeaf) := goodIn_app (goodIn_of _ (by decide +kernel)) ggX4_isSame_X4_isLeaf
set_option maxRecDepth 20000 in
theorem ggX4_isSame_X4_takes : GoodIn wsX4_isSame wsX4_takes := goodIn_r _ [110, 87, 88, 89, 15, 90, 2, 9, 95, 96, 97, 98, 10, 127, 128, 129, 130, 131, 132, 133, 134, 135, 136] (by decide +kernel) (by decide +kernel)
set_option maxRecDepth 20000 in
theorem gX4_isSame_X4_takes : GoodIn wsX4_isSame (wsV RX4 68 RX4 yX4_takes wsX4_takes) := goodIn_app (goodIn_of _ (by decide +kernel)) ggX4_isSame_X4_takes
set_option maxRecDepth 20000 in
theorem ggX4_isSame_X3_sole : GoodIn wsX4_isSame wsX3_sole := goodIn_ca (goodIn_r _ [114, 22, 23, 24, 20, 25, 26, 27, 75, 37, 76, 77, 71, 44, 45, 46, 78, 72, 73, 74, 55, 79, 80, 81, 82, 56, 83, 84, 85, 86, 137, 138, 139, 140, 141, 142, 143, 144, 145, 146, 147, 148, 149, 150, 151] (by decide +kernel) (by decide +kernel)) (goodIn_sub (fun _ h => List.mem_cons_of_mem _ (List.mem_append_right _ h)) (by decide +kernel))
set_option maxRecDepth 20000 in
theorem gX4_isSame_X3_sole : GoodIn wsX4_isSame (wsV RX4 116 RX3 yX3_sole wsX3_sole) := goodIn_app (goodIn_of _ (by decide +kernel)) ggX4_isSame_X3_sole
set_option maxRecDepth 20000 in
theorem ggX4_isSame_X3_cheapest : GoodIn wsX4_isSame wsX3_cheapest := goodIn_r _ [118, 22, 68, 37, 69, 70, 71, 45, 20, 46, 65, 29, 66, 67, 32, 72, 73, 74, 55, 137, 138, 139, 140, 141, 142, 143, 144, 145, 146, 147, 148, 149, 150, 151] (by decide +kernel) (by decide +kernel)
set_option maxRecDepth 20000 in
theorem gX4_isSame_X3_cheapest : GoodIn wsX4_isSame (wsV RX4 119 RX3 yX3_cheapest wsX3_cheapest) := goodIn_app (goodIn_of _ (by decide +kernel)) ggX4_isSame_X3_cheapest
set_option maxRecDepth 20000 in
theorem ggX4_isSame_X3_saved : GoodIn wsX4_isSame wsX3_saved := goodIn_r _ [122, 22, 137, 138, 139, 140, 141, 142] (by decide +kernel) (by decide +kernel)
set_option maxRecDepth 20000 in
theorem gX4_isSame_X3_saved : GoodIn wsX4_isSame (wsV RX4 122 RX3 yX3_saved wsX3_saved) := goodIn_app (goodIn_of _ (by decide +kernel)) ggX4_isSame_X3_saved
set_option maxRecDepth 20000 in
theorem ggX4_isSame_X3_mean : GoodIn wsX4_isSame wsX3_mean := goodIn_r _ [126, 22, 137, 138, 139, 140, 141, 142] (by decide +kernel) (by decide +kernel)
set_option maxRecDepth 20000 in
theorem gX4_isSame_X3_mean : GoodIn wsX4_isSame (wsV RX4 125 RX3 yX3_mean wsX3_mean) := goodIn_app (goodIn_of _ (by decide +kernel)) ggX4_isSame_X3_mean
theorem dX4_isSame_0 : decode cX4_isSame 0 = .ok (.bipush 8, 2) := by decide +kernel
theorem dX4_isSame_2 : decode cX4_isSame 2 = .ok (.newarray .int, 2) := by decide +kernel
theorem dX4_isSame_4 : decode cX4_isSame 4 = .ok (.dup, 1) := by decide +kernel
theorem dX4_isSame_5 : decode cX4_isSame 5 = .ok (.iconst 0, 1) := by decide +kernel
theorem dX4_isSame_6 : decode cX4_isSame 6 = .ok (.aload_n 0, 1) := by decide +kernel
theorem dX4_isSame_7 : decode cX4_isSame 7 = .ok (.invokevirtual 97, 3) := by decide +kernel
theorem dX4_isSame_10 : decode cX4_isSame 10 = .ok (.iastore, 1) := by decide +kernel
theorem dX4_isSame_11 : decode cX4_isSame 11 = .ok (.dup, 1) := by decide +kernel
theorem dX4_isSame_12 : decode cX4_isSame 12 = .ok (.iconst 1, 1) := by decide +kernel
theorem dX4_isSame_13 : decode cX4_isSame 13 = .ok (.aload_n 0, 1) := by decide +kernel
theorem dX4_isSame_14 : decode cX4_isSame 14 = .ok (.getfield 24, 3) := by decide +kernel
theorem dX4_isSame_17 : decode cX4_isSame 17 = .ok (.arraylength, 1) := by decide +kernel
theorem dX4_isSame_18 : decode cX4_isSame 18 = .ok (.iastore, 1) := by decide +kernel
theorem dX4_isSame_19 : decode cX4_isSame 19 = .ok (.dup, 1) := by decide +kernel
theorem dX4_isSame_20 : decode cX4_isSame 20 = .ok (.iconst 2, 1) := by decide +kernel
theorem dX4_isSame_21 : decode cX4_isSame 21 = .ok (.aload_n 0, 1) := by decide +kernel
theorem dX4_isSame_22 : decode cX4_isSame 22 = .ok (.getfield 7, 3) := by decide +kernel
theorem dX4_isSame_25 : decode cX4_isSame 25 = .ok (.aload_n 0, 1) := by decide +kernel
theorem dX4_isSame_26 : decode cX4_isSame 26 = .ok (.getfield 24, 3) := by decide +kernel
theorem dX4_isSame_29 : decode cX4_isSame 29 = .ok (.iconst 0, 1) := by decide +kernel
theorem dX4_isSame_30 : decode cX4_isSame 30 = .ok (.iaload, 1) := by decide +kernel
theorem dX4_isSame_31 : decode cX4_isSame 31 = .ok (.iaload, 1) := by decide +kernel
theorem dX4_isSame_32 : decode cX4_isSame 32 = .ok (.iastore, 1) := by decide +kernel
theorem dX4_isSame_33 : decode cX4_isSame 33 = .ok (.dup, 1) := by decide +kernel
theorem dX4_isSame_34 : decode cX4_isSame 34 = .ok (.iconst 3, 1) := by decide +kernel
theorem dX4_isSame_35 : decode cX4_isSame 35 = .ok (.aload_n 0, 1) := by decide +kernel
theorem dX4_isSame_36 : decode cX4_isSame 36 = .ok (.getfield 36, 3) := by decide +kernel
theorem dX4_isSame_39 : decode cX4_isSame 39 = .ok (.iastore, 1) := by decide +kernel
theorem dX4_isSame_40 : decode cX4_isSame 40 = .ok (.dup, 1) := by decide +kernel
theorem dX4_isSame_41 : decode cX4_isSame 41 = .ok (.iconst 4, 1) := by decide +kernel
theorem dX4_isSame_42 : decode cX4_isSame 42 = .ok (.aload_n 0, 1) := by decide +kernel
theorem dX4_isSame_43 : decode cX4_isSame 43 = .ok (.getfield 39, 3) := by decide +kernel
theorem dX4_isSame_46 : decode cX4_isSame 46 = .ok (.iastore, 1) := by decide +kernel
theorem dX4_isSame_47 : decode cX4_isSame 47 = .ok (.dup, 1) := by decide +kernel
theorem dX4_isSame_48 : decode cX4_isSame 48 = .ok (.iconst 5, 1) := by decide +kernel
theorem dX4_isSame_49 : decode cX4_isSame 49 = .ok (.aload_n 0, 1) := by decide +kernel
theorem dX4_isSame_50 : decode cX4_isSame 50 = .ok (.getfield 42, 3) := by decide +kernel
theorem dX4_isSame_53 : decode cX4_isSame 53 = .ok (.iastore, 1) := by decide +kernel
theorem dX4_isSame_54 : decode cX4_isSame 54 = .ok (.dup, 1) := by decide +kernel
theorem dX4_isSame_55 : decode cX4_isSame 55 = .ok (.bipush 6, 2) := by decide +kernel
theorem dX4_isSame_57 : decode cX4_isSame 57 = .ok (.aload_n 0, 1) := by decide +kernel
theorem dX4_isSame_58 : decode cX4_isSame 58 = .ok (.getfield 45, 3) := by decide +kernel
theorem dX4_isSame_61 : decode cX4_isSame 61 = .ok (.iastore, 1) := by decide +kernel
theorem dX4_isSame_62 : decode cX4_isSame 62 = .ok (.dup, 1) := by decide +kernel
theorem dX4_isSame_63 : decode cX4_isSame 63 = .ok (.bipush 7, 2) := by decide +kernel
theorem dX4_isSame_65 : decode cX4_isSame 65 = .ok (.aload_n 0, 1) := by decide +kernel
theorem dX4_isSame_66 : decode cX4_isSame 66 = .ok (.getfield 27, 3) := by decide +kernel
theorem dX4_isSame_69 : decode cX4_isSame 69 = .ok (.iastore, 1) := by decide +kernel
theorem dX4_isSame_70 : decode cX4_isSame 70 = .ok (.astore_n 2, 1) := by decide +kernel
theorem dX4_isSame_71 : decode cX4_isSame 71 = .ok (.iconst 0, 1) := by decide +kernel
theorem dX4_isSame_72 : decode cX4_isSame 72 = .ok (.istore_n 3, 1) := by decide +kernel
theorem dX4_isSame_73 : decode cX4_isSame 73 = .ok (.iload_n 3, 1) := by decide +kernel
theorem dX4_isSame_74 : decode cX4_isSame 74 = .ok (.bipush 8, 2) := by decide +kernel
theorem dX4_isSame_76 : decode cX4_isSame 76 = .ok (.if_icmp .ge 22, 3) := by decide +kernel
theorem dX4_isSame_79 : decode cX4_isSame 79 = .ok (.aload_n 1, 1) := by decide +kernel
theorem dX4_isSame_80 : decode cX4_isSame 80 = .ok (.iload_n 3, 1) := by decide +kernel
theorem dX4_isSame_81 : decode cX4_isSame 81 = .ok (.invokevirtual 100, 3) := by decide +kernel
theorem dX4_isSame_84 : decode cX4_isSame 84 = .ok (.aload_n 2, 1) := by decide +kernel
theorem dX4_isSame_85 : decode cX4_isSame 85 = .ok (.iload_n 3, 1) := by decide +kernel
theorem dX4_isSame_86 : decode cX4_isSame 86 = .ok (.iaload, 1) := by decide +kernel
theorem dX4_isSame_87 : decode cX4_isSame 87 = .ok (.if_icmp .eq 5, 3) := by decide +kernel
theorem dX4_isSame_90 : decode cX4_isSame 90 = .ok (.iconst 0, 1) := by decide +kernel
theorem dX4_isSame_91 : decode cX4_isSame 91 = .ok (.ireturn, 1) := by decide +kernel
theorem dX4_isSame_92 : decode cX4_isSame 92 = .ok (.iinc 3 1, 3) := by decide +kernel
theorem dX4_isSame_95 : decode cX4_isSame 95 = .ok (.goto (-22), 3) := by decide +kernel
theorem dX4_isSame_98 : decode cX4_isSame 98 = .ok (.iconst 0, 1) := by decide +kernel
theorem dX4_isSame_99 : decode cX4_isSame 99 = .ok (.istore_n 3, 1) := by decide +kernel
theorem dX4_isSame_100 : decode cX4_isSame 100 = .ok (.iload_n 3, 1) := by decide +kernel
theorem dX4_isSame_101 : decode cX4_isSame 101 = .ok (.aload_n 0, 1) := by decide +kernel
theorem dX4_isSame_102 : decode cX4_isSame 102 = .ok (.getfield 24, 3) := by decide +kernel
theorem dX4_isSame_105 : decode cX4_isSame 105 = .ok (.arraylength, 1) := by decide +kernel
theorem dX4_isSame_106 : decode cX4_isSame 106 = .ok (.if_icmp .ge 121, 3) := by decide +kernel
theorem dX4_isSame_109 : decode cX4_isSame 109 = .ok (.aload_n 0, 1) := by decide +kernel
theorem dX4_isSame_110 : decode cX4_isSame 110 = .ok (.getfield 24, 3) := by decide +kernel
theorem dX4_isSame_113 : decode cX4_isSame 113 = .ok (.iload_n 3, 1) := by decide +kernel
theorem dX4_isSame_114 : decode cX4_isSame 114 = .ok (.iaload, 1) := by decide +kernel
theorem dX4_isSame_115 : decode cX4_isSame 115 = .ok (.istore 4, 2) := by decide +kernel
theorem dX4_isSame_117 : decode cX4_isSame 117 = .ok (.aload_n 1, 1) := by decide +kernel
theorem dX4_isSame_118 : decode cX4_isSame 118 = .ok (.iload_n 3, 1) := by decide +kernel
theorem dX4_isSame_119 : decode cX4_isSame 119 = .ok (.iconst 0, 1) := by decide +kernel
theorem dX4_isSame_120 : decode cX4_isSame 120 = .ok (.invokevirtual 105, 3) := by decide +kernel
theorem dX4_isSame_123 : decode cX4_isSame 123 = .ok (.aload_n 0, 1) := by decide +kernel
theorem dX4_isSame_124 : decode cX4_isSame 124 = .ok (.getfield 7, 3) := by decide +kernel
theorem dX4_isSame_127 : decode cX4_isSame 127 = .ok (.iload 4, 2) := by decide +kernel
theorem dX4_isSame_129 : decode cX4_isSame 129 = .ok (.iaload, 1) := by decide +kernel
theorem dX4_isSame_130 : decode cX4_isSame 130 = .ok (.if_icmp .ne 89, 3) := by decide +kernel
theorem dX4_isSame_133 : decode cX4_isSame 133 = .ok (.aload_n 1, 1) := by decide +kernel
theorem dX4_isSame_134 : decode cX4_isSame 134 = .ok (.iload_n 3, 1) := by decide +kernel
theorem dX4_isSame_135 : decode cX4_isSame 135 = .ok (.iconst 1, 1) := by decide +kernel
theorem dX4_isSame_136 : decode cX4_isSame 136 = .ok (.invokevirtual 105, 3) := by decide +kernel
theorem dX4_isSame_139 : decode cX4_isSame 139 = .ok (.aload_n 0, 1) := by decide +kernel
theorem dX4_isSame_140 : decode cX4_isSame 140 = .ok (.getfield 13, 3) := by decide +kernel
theorem dX4_isSame_143 : decode cX4_isSame 143 = .ok (.iload 4, 2) := by decide +kernel
theorem dX4_isSame_145 : decode cX4_isSame 145 = .ok (.iaload, 1) := by decide +kernel
theorem dX4_isSame_146 : decode cX4_isSame 146 = .ok (.if_icmp .ne 73, 3) := by decide +kernel
theorem dX4_isSame_149 : decode cX4_isSame 149 = .ok (.aload_n 1, 1) := by decide +kernel
theorem dX4_isSame_150 : decode cX4_isSame 150 = .ok (.iload_n 3, 1) := by decide +kernel
theorem dX4_isSame_151 : decode cX4_isSame 151 = .ok (.iconst 2, 1) := by decide +kernel
theorem dX4_isSame_152 : decode cX4_isSame 152 = .ok (.invokevirtual 105, 3) := by decide +kernel
theorem dX4_isSame_155 : decode cX4_isSame 155 = .ok (.aload_n 0, 1) := by decide +kernel
theorem dX4_isSame_156 : decode cX4_isSame 156 = .ok (.getfield 16, 3) := by decide +kernel
theorem dX4_isSame_159 : decode cX4_isSame 159 = .ok (.iload 4, 2) := by decide +kernel
theorem dX4_isSame_161 : decode cX4_isSame 161 = .ok (.iaload, 1) := by decide +kernel
theorem dX4_isSame_162 : decode cX4_isSame 162 = .ok (.ifCond .ge 7, 3) := by decide +kernel
theorem dX4_isSame_165 : decode cX4_isSame 165 = .ok (.iconst (-1), 1) := by decide +kernel
theorem dX4_isSame_166 : decode cX4_isSame 166 = .ok (.goto 14, 3) := by decide +kernel
theorem dX4_isSame_169 : decode cX4_isSame 169 = .ok (.aload_n 0, 1) := by decide +kernel
theorem dX4_isSame_170 : decode cX4_isSame 170 = .ok (.aload_n 0, 1) := by decide +kernel
theorem dX4_isSame_171 : decode cX4_isSame 171 = .ok (.getfield 16, 3) := by decide +kernel
theorem dX4_isSame_174 : decode cX4_isSame 174 = .ok (.iload 4, 2) := by decide +kernel
theorem dX4_isSame_176 : decode cX4_isSame 176 = .ok (.iaload, 1) := by decide +kernel
theorem dX4_isSame_177 : decode cX4_isSame 177 = .ok (.invokevirtual 65, 3) := by decide +kernel
theorem dX4_isSame_180 : decode cX4_isSame 180 = .ok (.if_icmp .ne 39, 3) := by decide +kernel
theorem dX4_isSame_183 : decode cX4_isSame 183 = .ok (.aload_n 1, 1) := by decide +kernel
theorem dX4_isSame_184 : decode cX4_isSame 184 = .ok (.iload_n 3, 1) := by decide +kernel
theorem dX4_isSame_185 : decode cX4_isSame 185 = .ok (.iconst 3, 1) := by decide +kernel
theorem dX4_isSame_186 : decode cX4_isSame 186 = .ok (.invokevirtual 105, 3) := by decide +kernel
theorem dX4_isSame_189 : decode cX4_isSame 189 = .ok (.aload_n 0, 1) := by decide +kernel
theorem dX4_isSame_190 : decode cX4_isSame 190 = .ok (.getfield 13, 3) := by decide +kernel
theorem dX4_isSame_193 : decode cX4_isSame 193 = .ok (.iload 4, 2) := by decide +kernel
theorem dX4_isSame_195 : decode cX4_isSame 195 = .ok (.iaload, 1) := by decide +kernel
theorem dX4_isSame_196 : decode cX4_isSame 196 = .ok (.ifCond .lt 7, 3) := by decide +kernel
theorem dX4_isSame_199 : decode cX4_isSame 199 = .ok (.iconst (-1), 1) := by decide +kernel
theorem dX4_isSame_200 : decode cX4_isSame 200 = .ok (.goto 16, 3) := by decide +kernel
theorem dX4_isSame_203 : decode cX4_isSame 203 = .ok (.aload_n 0, 1) := by decide +kernel
theorem dX4_isSame_204 : decode cX4_isSame 204 = .ok (.aload_n 0, 1) := by decide +kernel
theorem dX4_isSame_205 : decode cX4_isSame 205 = .ok (.getfield 20, 3) := by decide +kernel
theorem dX4_isSame_208 : decode cX4_isSame 208 = .ok (.iload 4, 2) := by decide +kernel
theorem dX4_isSame_210 : decode cX4_isSame 210 = .ok (.aaload, 1) := by decide +kernel
theorem dX4_isSame_211 : decode cX4_isSame 211 = .ok (.iconst 0, 1) := by decide +kernel
theorem dX4_isSame_212 : decode cX4_isSame 212 = .ok (.iaload, 1) := by decide +kernel
theorem dX4_isSame_213 : decode cX4_isSame 213 = .ok (.invokevirtual 65, 3) := by decide +kernel
theorem dX4_isSame_216 : decode cX4_isSame 216 = .ok (.if_icmp .eq 5, 3) := by decide +kernel
theorem dX4_isSame_219 : decode cX4_isSame 219 = .ok (.iconst 0, 1) := by decide +kernel
theorem dX4_isSame_220 : decode cX4_isSame 220 = .ok (.ireturn, 1) := by decide +kernel
theorem dX4_isSame_221 : decode cX4_isSame 221 = .ok (.iinc 3 1, 3) := by decide +kernel
theorem dX4_isSame_224 : decode cX4_isSame 224 = .ok (.goto (-124), 3) := by decide +kernel
theorem dX4_isSame_227 : decode cX4_isSame 227 = .ok (.iconst (-1), 1) := by decide +kernel
theorem dX4_isSame_228 : decode cX4_isSame 228 = .ok (.istore_n 3, 1) := by decide +kernel
theorem dX4_isSame_229 : decode cX4_isSame 229 = .ok (.bipush 31, 2) := by decide +kernel
theorem dX4_isSame_231 : decode cX4_isSame 231 = .ok (.istore 4, 2) := by decide +kernel
theorem dX4_isSame_233 : decode cX4_isSame 233 = .ok (.iload 4, 2) := by decide +kernel
theorem dX4_isSame_235 : decode cX4_isSame 235 = .ok (.ifCond .lt 105, 3) := by decide +kernel
theorem dX4_isSame_238 : decode cX4_isSame 238 = .ok (.iconst 5, 1) := by decide +kernel
theorem dX4_isSame_239 : decode cX4_isSame 239 = .ok (.newarray .int, 2) := by decide +kernel
theorem dX4_isSame_241 : decode cX4_isSame 241 = .ok (.astore 5, 2) := by decide +kernel
theorem dX4_isSame_243 : decode cX4_isSame 243 = .ok (.iconst 0, 1) := by decide +kernel
theorem dX4_isSame_244 : decode cX4_isSame 244 = .ok (.istore 6, 2) := by decide +kernel
theorem dX4_isSame_246 : decode cX4_isSame 246 = .ok (.iload 6, 2) := by decide +kernel
theorem dX4_isSame_248 : decode cX4_isSame 248 = .ok (.iconst 5, 1) := by decide +kernel
theorem dX4_isSame_249 : decode cX4_isSame 249 = .ok (.if_icmp .ge 22, 3) := by decide +kernel
theorem dX4_isSame_252 : decode cX4_isSame 252 = .ok (.aload 5, 2) := by decide +kernel
theorem dX4_isSame_254 : decode cX4_isSame 254 = .ok (.iload 6, 2) := by decide +kernel
theorem dX4_isSame_256 : decode cX4_isSame 256 = .ok (.aload_n 1, 1) := by decide +kernel
theorem dX4_isSame_257 : decode cX4_isSame 257 = .ok (.iload 4, 2) := by decide +kernel
theorem dX4_isSame_259 : decode cX4_isSame 259 = .ok (.iload 6, 2) := by decide +kernel
theorem dX4_isSame_261 : decode cX4_isSame 261 = .ok (.invokevirtual 109, 3) := by decide +kernel
theorem dX4_isSame_264 : decode cX4_isSame 264 = .ok (.iastore, 1) := by decide +kernel
theorem dX4_isSame_265 : decode cX4_isSame 265 = .ok (.iinc 6 1, 3) := by decide +kernel
theorem dX4_isSame_268 : decode cX4_isSame 268 = .ok (.goto (-22), 3) := by decide +kernel
theorem dX4_isSame_271 : decode cX4_isSame 271 = .ok (.aload_n 0, 1) := by decide +kernel
theorem dX4_isSame_272 : decode cX4_isSame 272 = .ok (.aload_n 0, 1) := by decide +kernel
theorem dX4_isSame_273 : decode cX4_isSame 273 = .ok (.iload 4, 2) := by decide +kernel
theorem dX4_isSame_275 : decode cX4_isSame 275 = .ok (.invokevirtual 55, 3) := by decide +kernel
theorem dX4_isSame_278 : decode cX4_isSame 278 = .ok (.aload 5, 2) := by decide +kernel
theorem dX4_isSame_280 : decode cX4_isSame 280 = .ok (.invokevirtual 112, 3) := by decide +kernel
theorem dX4_isSame_283 : decode cX4_isSame 283 = .ok (.ifCond .eq 19, 3) := by decide +kernel
theorem dX4_isSame_286 : decode cX4_isSame 286 = .ok (.aload_n 1, 1) := by decide +kernel
theorem dX4_isSame_287 : decode cX4_isSame 287 = .ok (.iload 4, 2) := by decide +kernel
theorem dX4_isSame_289 : decode cX4_isSame 289 = .ok (.iconst 5, 1) := by decide +kernel
theorem dX4_isSame_290 : decode cX4_isSame 290 = .ok (.invokevirtual 109, 3) := by decide +kernel
theorem dX4_isSame_293 : decode cX4_isSame 293 = .ok (.aload_n 0, 1) := by decide +kernel
theorem dX4_isSame_294 : decode cX4_isSame 294 = .ok (.iload 4, 2) := by decide +kernel
theorem dX4_isSame_296 : decode cX4_isSame 296 = .ok (.invokevirtual 68, 3) := by decide +kernel
theorem dX4_isSame_299 : decode cX4_isSame 299 = .ok (.if_icmp .eq 5, 3) := by decide +kernel
theorem dX4_isSame_302 : decode cX4_isSame 302 = .ok (.iconst 0, 1) := by decide +kernel
theorem dX4_isSame_303 : decode cX4_isSame 303 = .ok (.ireturn, 1) := by decide +kernel
theorem dX4_isSame_304 : decode cX4_isSame 304 = .ok (.aload_n 0, 1) := by decide +kernel
theorem dX4_isSame_305 : decode cX4_isSame 305 = .ok (.iload 4, 2) := by decide +kernel
theorem dX4_isSame_307 : decode cX4_isSame 307 = .ok (.invokevirtual 55, 3) := by decide +kernel
theorem dX4_isSame_310 : decode cX4_isSame 310 = .ok (.ifCond .lt 24, 3) := by decide +kernel
theorem dX4_isSame_313 : decode cX4_isSame 313 = .ok (.iload_n 3, 1) := by decide +kernel
theorem dX4_isSame_314 : decode cX4_isSame 314 = .ok (.ifCond .lt 17, 3) := by decide +kernel
theorem dX4_isSame_317 : decode cX4_isSame 317 = .ok (.aload_n 0, 1) := by decide +kernel
theorem dX4_isSame_318 : decode cX4_isSame 318 = .ok (.iload 4, 2) := by decide +kernel
theorem dX4_isSame_320 : decode cX4_isSame 320 = .ok (.invokevirtual 68, 3) := by decide +kernel
theorem dX4_isSame_323 : decode cX4_isSame 323 = .ok (.aload_n 0, 1) := by decide +kernel
theorem dX4_isSame_324 : decode cX4_isSame 324 = .ok (.iload_n 3, 1) := by decide +kernel
theorem dX4_isSame_325 : decode cX4_isSame 325 = .ok (.invokevirtual 68, 3) := by decide +kernel
theorem dX4_isSame_328 : decode cX4_isSame 328 = .ok (.if_icmp .gt 6, 3) := by decide +kernel
theorem dX4_isSame_331 : decode cX4_isSame 331 = .ok (.iload 4, 2) := by decide +kernel
theorem dX4_isSame_333 : decode cX4_isSame 333 = .ok (.istore_n 3, 1) := by decide +kernel
theorem dX4_isSame_334 : decode cX4_isSame 334 = .ok (.iinc 4 (-1), 3) := by decide +kernel
theorem dX4_isSame_337 : decode cX4_isSame 337 = .ok (.goto (-104), 3) := by decide +kernel
theorem dX4_isSame_340 : decode cX4_isSame 340 = .ok (.iconst 5, 1) := by decide +kernel
theorem dX4_isSame_341 : decode cX4_isSame 341 = .ok (.newarray .int, 2) := by decide +kernel
theorem dX4_isSame_343 : decode cX4_isSame 343 = .ok (.astore 4, 2) := by decide +kernel
theorem dX4_isSame_345 : decode cX4_isSame 345 = .ok (.iconst 0, 1) := by decide +kernel
theorem dX4_isSame_346 : decode cX4_isSame 346 = .ok (.istore 5, 2) := by decide +kernel
theorem dX4_isSame_348 : decode cX4_isSame 348 = .ok (.iload 5, 2) := by decide +kernel
theorem dX4_isSame_350 : decode cX4_isSame 350 = .ok (.iconst 5, 1) := by decide +kernel
theorem dX4_isSame_351 : decode cX4_isSame 351 = .ok (.if_icmp .ge 20, 3) := by decide +kernel
theorem dX4_isSame_354 : decode cX4_isSame 354 = .ok (.aload 4, 2) := by decide +kernel
theorem dX4_isSame_356 : decode cX4_isSame 356 = .ok (.iload 5, 2) := by decide +kernel
theorem dX4_isSame_358 : decode cX4_isSame 358 = .ok (.aload_n 1, 1) := by decide +kernel
theorem dX4_isSame_359 : decode cX4_isSame 359 = .ok (.iload 5, 2) := by decide +kernel
theorem dX4_isSame_361 : decode cX4_isSame 361 = .ok (.invokevirtual 116, 3) := by decide +kernel
theorem dX4_isSame_364 : decode cX4_isSame 364 = .ok (.iastore, 1) := by decide +kernel
theorem dX4_isSame_365 : decode cX4_isSame 365 = .ok (.iinc 5 1, 3) := by decide +kernel
theorem dX4_isSame_368 : decode cX4_isSame 368 = .ok (.goto (-20), 3) := by decide +kernel
theorem dX4_isSame_371 : decode cX4_isSame 371 = .ok (.aload_n 0, 1) := by decide +kernel
theorem dX4_isSame_372 : decode cX4_isSame 372 = .ok (.aload_n 0, 1) := by decide +kernel
theorem dX4_isSame_373 : decode cX4_isSame 373 = .ok (.bipush 32, 2) := by decide +kernel
theorem dX4_isSame_375 : decode cX4_isSame 375 = .ok (.invokevirtual 55, 3) := by decide +kernel
theorem dX4_isSame_378 : decode cX4_isSame 378 = .ok (.aload 4, 2) := by decide +kernel
theorem dX4_isSame_380 : decode cX4_isSame 380 = .ok (.invokevirtual 112, 3) := by decide +kernel
theorem dX4_isSame_383 : decode cX4_isSame 383 = .ok (.ifCond .eq 63, 3) := by decide +kernel
theorem dX4_isSame_386 : decode cX4_isSame 386 = .ok (.aload_n 1, 1) := by decide +kernel
theorem dX4_isSame_387 : decode cX4_isSame 387 = .ok (.invokevirtual 119, 3) := by decide +kernel
theorem dX4_isSame_390 : decode cX4_isSame 390 = .ok (.iload_n 3, 1) := by decide +kernel
theorem dX4_isSame_391 : decode cX4_isSame 391 = .ok (.if_icmp .ne 55, 3) := by decide +kernel
theorem dX4_isSame_394 : decode cX4_isSame 394 = .ok (.aload_n 1, 1) := by decide +kernel
theorem dX4_isSame_395 : decode cX4_isSame 395 = .ok (.invokevirtual 122, 3) := by decide +kernel
theorem dX4_isSame_398 : decode cX4_isSame 398 = .ok (.iconst 5, 1) := by decide +kernel
theorem dX4_isSame_399 : decode cX4_isSame 399 = .ok (.aload_n 0, 1) := by decide +kernel
theorem dX4_isSame_400 : decode cX4_isSame 400 = .ok (.getfield 36, 3) := by decide +kernel
theorem dX4_isSame_403 : decode cX4_isSame 403 = .ok (.imul, 1) := by decide +kernel
theorem dX4_isSame_404 : decode cX4_isSame 404 = .ok (.aload_n 0, 1) := by decide +kernel
theorem dX4_isSame_405 : decode cX4_isSame 405 = .ok (.getfield 39, 3) := by decide +kernel
theorem dX4_isSame_408 : decode cX4_isSame 408 = .ok (.isub, 1) := by decide +kernel
theorem dX4_isSame_409 : decode cX4_isSame 409 = .ok (.if_icmp .ne 37, 3) := by decide +kernel
theorem dX4_isSame_412 : decode cX4_isSame 412 = .ok (.aload_n 1, 1) := by decide +kernel
theorem dX4_isSame_413 : decode cX4_isSame 413 = .ok (.invokevirtual 125, 3) := by decide +kernel
theorem dX4_isSame_416 : decode cX4_isSame 416 = .ok (.aload_n 0, 1) := by decide +kernel
theorem dX4_isSame_417 : decode cX4_isSame 417 = .ok (.getfield 36, 3) := by decide +kernel
theorem dX4_isSame_420 : decode cX4_isSame 420 = .ok (.ifCond .ne 7, 3) := by decide +kernel
theorem dX4_isSame_423 : decode cX4_isSame 423 = .ok (.dconst 0, 1) := by decide +kernel
theorem dX4_isSame_424 : decode cX4_isSame 424 = .ok (.goto 14, 3) := by decide +kernel
theorem dX4_isSame_427 : decode cX4_isSame 427 = .ok (.aload_n 0, 1) := by decide +kernel
theorem dX4_isSame_428 : decode cX4_isSame 428 = .ok (.getfield 39, 3) := by decide +kernel
theorem dX4_isSame_431 : decode cX4_isSame 431 = .ok (.i2d, 1) := by decide +kernel
theorem dX4_isSame_432 : decode cX4_isSame 432 = .ok (.aload_n 0, 1) := by decide +kernel
theorem dX4_isSame_433 : decode cX4_isSame 433 = .ok (.getfield 36, 3) := by decide +kernel
theorem dX4_isSame_436 : decode cX4_isSame 436 = .ok (.i2d, 1) := by decide +kernel
theorem dX4_isSame_437 : decode cX4_isSame 437 = .ok (.ddiv, 1) := by decide +kernel
theorem dX4_isSame_438 : decode cX4_isSame 438 = .ok (.dcmp .l, 1) := by decide +kernel
theorem dX4_isSame_439 : decode cX4_isSame 439 = .ok (.ifCond .ne 7, 3) := by decide +kernel
theorem dX4_isSame_442 : decode cX4_isSame 442 = .ok (.iconst 1, 1) := by decide +kernel
theorem dX4_isSame_443 : decode cX4_isSame 443 = .ok (.goto 4, 3) := by decide +kernel
theorem dX4_isSame_446 : decode cX4_isSame 446 = .ok (.iconst 0, 1) := by decide +kernel
theorem dX4_isSame_447 : decode cX4_isSame 447 = .ok (.ireturn, 1) := by decide +kernel
