theorem dX4_init_0 : decode cX4_init 0 = .ok (.aload_n 0, 1) := by decide +kernel
theorem dX4_init_1 : decode cX4_init 1 = .ok (.invokespecial 1, 3) := by decide +kernel
theorem dX4_init_4 : decode cX4_init 4 = .ok (.aload_n 0, 1) := by decide +kernel
theorem dX4_init_5 : decode cX4_init 5 = .ok (.bipush 65, 2) := by decide +kernel
theorem dX4_init_7 : decode cX4_init 7 = .ok (.newarray .int, 2) := by decide +kernel
theorem dX4_init_9 : decode cX4_init 9 = .ok (.putfield 9, 3) := by decide +kernel
theorem dX4_init_12 : decode cX4_init 12 = .ok (.aload_n 0, 1) := by decide +kernel
theorem dX4_init_13 : decode cX4_init 13 = .ok (.bipush 65, 2) := by decide +kernel
theorem dX4_init_15 : decode cX4_init 15 = .ok (.newarray .int, 2) := by decide +kernel
theorem dX4_init_17 : decode cX4_init 17 = .ok (.putfield 13, 3) := by decide +kernel
theorem dX4_init_20 : decode cX4_init 20 = .ok (.aload_n 0, 1) := by decide +kernel
theorem dX4_init_21 : decode cX4_init 21 = .ok (.bipush 65, 2) := by decide +kernel
theorem dX4_init_23 : decode cX4_init 23 = .ok (.newarray .int, 2) := by decide +kernel
theorem dX4_init_25 : decode cX4_init 25 = .ok (.putfield 16, 3) := by decide +kernel
theorem dX4_init_28 : decode cX4_init 28 = .ok (.aload_n 0, 1) := by decide +kernel
theorem dX4_init_29 : decode cX4_init 29 = .ok (.iconst 1, 1) := by decide +kernel
theorem dX4_init_30 : decode cX4_init 30 = .ok (.putfield 19, 3) := by decide +kernel
theorem dX4_init_33 : decode cX4_init 33 = .ok (.aload_n 0, 1) := by decide +kernel
theorem dX4_init_34 : decode cX4_init 34 = .ok (.bipush 64, 2) := by decide +kernel
theorem dX4_init_36 : decode cX4_init 36 = .ok (.putfield 23, 3) := by decide +kernel
theorem dX4_init_39 : decode cX4_init 39 = .ok (.aload_n 0, 1) := by decide +kernel
theorem dX4_init_40 : decode cX4_init 40 = .ok (.sipush 195, 3) := by decide +kernel
theorem dX4_init_43 : decode cX4_init 43 = .ok (.newarray .int, 2) := by decide +kernel
theorem dX4_init_45 : decode cX4_init 45 = .ok (.putfield 26, 3) := by decide +kernel
theorem dX4_init_48 : decode cX4_init 48 = .ok (.aload_n 0, 1) := by decide +kernel
theorem dX4_init_49 : decode cX4_init 49 = .ok (.iconst 0, 1) := by decide +kernel
theorem dX4_init_50 : decode cX4_init 50 = .ok (.iconst 1, 1) := by decide +kernel
theorem dX4_init_51 : decode cX4_init 51 = .ok (.bipush 32, 2) := by decide +kernel
theorem dX4_init_53 : decode cX4_init 53 = .ok (.iconst (-1), 1) := by decide +kernel
theorem dX4_init_54 : decode cX4_init 54 = .ok (.invokevirtual 29, 3) := by decide +kernel
theorem dX4_init_57 : decode cX4_init 57 = .ok (.return_, 1) := by decide +kernel
theorem dX4_thrown_0 : decode cX4_thrown 0 = .ok (.aload_n 0, 1) := by decide +kernel
theorem dX4_thrown_1 : decode cX4_thrown 1 = .ok (.getfield 33, 3) := by decide +kernel
theorem dX4_thrown_4 : decode cX4_thrown 4 = .ok (.ireturn, 1) := by decide +kernel
theorem dX4_no_0 : decode cX4_no 0 = .ok (.aload_n 0, 1) := by decide +kernel
theorem dX4_no_1 : decode cX4_no 1 = .ok (.iload_n 1, 1) := by decide +kernel
theorem dX4_no_2 : decode cX4_no 2 = .ok (.putfield 33, 3) := by decide +kernel
theorem dX4_no_5 : decode cX4_no 5 = .ok (.iconst 0, 1) := by decide +kernel
theorem dX4_no_6 : decode cX4_no 6 = .ok (.ireturn, 1) := by decide +kernel
theorem dX4_isIn_0 : decode cX4_isIn 0 = .ok (.iload_n 0, 1) := by decide +kernel
theorem dX4_isIn_1 : decode cX4_isIn 1 = .ok (.iload_n 1, 1) := by decide +kernel
theorem dX4_isIn_2 : decode cX4_isIn 2 = .ok (.if_icmp .lt 12, 3) := by decide +kernel
theorem dX4_isIn_5 : decode cX4_isIn 5 = .ok (.iload_n 0, 1) := by decide +kernel
theorem dX4_isIn_6 : decode cX4_isIn 6 = .ok (.iload_n 2, 1) := by decide +kernel
theorem dX4_isIn_7 : decode cX4_isIn 7 = .ok (.if_icmp .gt 7, 3) := by decide +kernel
theorem dX4_isIn_10 : decode cX4_isIn 10 = .ok (.iconst 1, 1) := by decide +kernel
theorem dX4_isIn_11 : decode cX4_isIn 11 = .ok (.goto 4, 3) := by decide +kernel
theorem dX4_isIn_14 : decode cX4_isIn 14 = .ok (.iconst 0, 1) := by decide +kernel
theorem dX4_isIn_15 : decode cX4_isIn 15 = .ok (.ireturn, 1) := by decide +kernel
set_option maxRecDepth 20000 in
theorem ggX4_isLast_X4_isIn : GoodIn wsX4_isLast wsX4_isIn := goodIn_r _ [4] (by decide +kernel) (by decide +kernel)
set_option maxRecDepth 20000 in
theorem gX4_isLast_X4_isIn : GoodIn wsX4_isLast (va_wsS RX4 36 yX4_isIn wsX4_isIn) := goodIn_app (goodIn_of _ (by decide +kernel)) ggX4_isLast_X4_isIn
theorem dX4_isLast_0 : decode cX4_isLast 0 = .ok (.iload_n 0, 1) := by decide +kernel
theorem dX4_isLast_1 : decode cX4_isLast 1 = .ok (.iconst 0, 1) := by decide +kernel
theorem dX4_isLast_2 : decode cX4_isLast 2 = .ok (.bipush 31, 2) := by decide +kernel
theorem dX4_isLast_4 : decode cX4_isLast 4 = .ok (.invokestatic 36, 3) := by decide +kernel
theorem dX4_isLast_7 : decode cX4_isLast 7 = .ok (.ireturn, 1) := by decide +kernel
theorem dX4_set_0 : decode cX4_set 0 = .ok (.aload_n 0, 1) := by decide +kernel
theorem dX4_set_1 : decode cX4_set 1 = .ok (.getfield 9, 3) := by decide +kernel
theorem dX4_set_4 : decode cX4_set 4 = .ok (.iload_n 1, 1) := by decide +kernel
theorem dX4_set_5 : decode cX4_set 5 = .ok (.iload_n 2, 1) := by decide +kernel
theorem dX4_set_6 : decode cX4_set 6 = .ok (.iastore, 1) := by decide +kernel
theorem dX4_set_7 : decode cX4_set 7 = .ok (.aload_n 0, 1) := by decide +kernel
theorem dX4_set_8 : decode cX4_set 8 = .ok (.getfield 13, 3) := by decide +kernel
theorem dX4_set_11 : decode cX4_set 11 = .ok (.iload_n 1, 1) := by decide +kernel
theorem dX4_set_12 : decode cX4_set 12 = .ok (.iload_n 3, 1) := by decide +kernel
theorem dX4_set_13 : decode cX4_set 13 = .ok (.iastore, 1) := by decide +kernel
theorem dX4_set_14 : decode cX4_set 14 = .ok (.aload_n 0, 1) := by decide +kernel
theorem dX4_set_15 : decode cX4_set 15 = .ok (.getfield 16, 3) := by decide +kernel
theorem dX4_set_18 : decode cX4_set 18 = .ok (.iload_n 1, 1) := by decide +kernel
theorem dX4_set_19 : decode cX4_set 19 = .ok (.iload 4, 2) := by decide +kernel
theorem dX4_set_21 : decode cX4_set 21 = .ok (.iastore, 1) := by decide +kernel
theorem dX4_set_22 : decode cX4_set 22 = .ok (.return_, 1) := by decide +kernel
theorem dX4_placeOf_0 : decode cX4_placeOf 0 = .ok (.iconst 0, 1) := by decide +kernel
theorem dX4_placeOf_1 : decode cX4_placeOf 1 = .ok (.istore_n 2, 1) := by decide +kernel
theorem dX4_placeOf_2 : decode cX4_placeOf 2 = .ok (.iload_n 2, 1) := by decide +kernel
theorem dX4_placeOf_3 : decode cX4_placeOf 3 = .ok (.aload_n 0, 1) := by decide +kernel
theorem dX4_placeOf_4 : decode cX4_placeOf 4 = .ok (.getfield 19, 3) := by decide +kernel
theorem dX4_placeOf_7 : decode cX4_placeOf 7 = .ok (.if_icmp .ge 21, 3) := by decide +kernel
theorem dX4_placeOf_10 : decode cX4_placeOf 10 = .ok (.aload_n 0, 1) := by decide +kernel
theorem dX4_placeOf_11 : decode cX4_placeOf 11 = .ok (.getfield 13, 3) := by decide +kernel
theorem dX4_placeOf_14 : decode cX4_placeOf 14 = .ok (.iload_n 2, 1) := by decide +kernel
theorem dX4_placeOf_15 : decode cX4_placeOf 15 = .ok (.iaload, 1) := by decide +kernel
theorem dX4_placeOf_16 : decode cX4_placeOf 16 = .ok (.iload_n 1, 1) := by decide +kernel
theorem dX4_placeOf_17 : decode cX4_placeOf 17 = .ok (.if_icmp .ne 5, 3) := by decide +kernel
theorem dX4_placeOf_20 : decode cX4_placeOf 20 = .ok (.iload_n 2, 1) := by decide +kernel
theorem dX4_placeOf_21 : decode cX4_placeOf 21 = .ok (.ireturn, 1) := by decide +kernel
theorem dX4_placeOf_22 : decode cX4_placeOf 22 = .ok (.iinc 2 1, 3) := by decide +kernel
theorem dX4_placeOf_25 : decode cX4_placeOf 25 = .ok (.goto (-23), 3) := by decide +kernel
theorem dX4_placeOf_28 : decode cX4_placeOf 28 = .ok (.iconst (-1), 1) := by decide +kernel
theorem dX4_placeOf_29 : decode cX4_placeOf 29 = .ok (.ireturn, 1) := by decide +kernel
theorem dX4_above_0 : decode cX4_above 0 = .ok (.iconst 0, 1) := by decide +kernel
theorem dX4_above_1 : decode cX4_above 1 = .ok (.istore_n 2, 1) := by decide +kernel
theorem dX4_above_2 : decode cX4_above 2 = .ok (.iload_n 2, 1) := by decide +kernel
theorem dX4_above_3 : decode cX4_above 3 = .ok (.aload_n 0, 1) := by decide +kernel
theorem dX4_above_4 : decode cX4_above 4 = .ok (.getfield 19, 3) := by decide +kernel
theorem dX4_above_7 : decode cX4_above 7 = .ok (.if_icmp .ge 43, 3) := by decide +kernel
theorem dX4_above_10 : decode cX4_above 10 = .ok (.aload_n 0, 1) := by decide +kernel
theorem dX4_above_11 : decode cX4_above 11 = .ok (.getfield 16, 3) := by decide +kernel
theorem dX4_above_14 : decode cX4_above 14 = .ok (.iload_n 2, 1) := by decide +kernel
theorem dX4_above_15 : decode cX4_above 15 = .ok (.iaload, 1) := by decide +kernel
theorem dX4_above_16 : decode cX4_above 16 = .ok (.iconst (-1), 1) := by decide +kernel
theorem dX4_above_17 : decode cX4_above 17 = .ok (.if_icmp .eq 27, 3) := by decide +kernel
theorem dX4_above_20 : decode cX4_above 20 = .ok (.aload_n 0, 1) := by decide +kernel
theorem dX4_above_21 : decode cX4_above 21 = .ok (.getfield 16, 3) := by decide +kernel
theorem dX4_above_24 : decode cX4_above 24 = .ok (.iload_n 2, 1) := by decide +kernel
theorem dX4_above_25 : decode cX4_above 25 = .ok (.iaload, 1) := by decide +kernel
theorem dX4_above_26 : decode cX4_above 26 = .ok (.iload_n 1, 1) := by decide +kernel
theorem dX4_above_27 : decode cX4_above 27 = .ok (.if_icmp .eq 15, 3) := by decide +kernel
theorem dX4_above_30 : decode cX4_above 30 = .ok (.aload_n 0, 1) := by decide +kernel
theorem dX4_above_31 : decode cX4_above 31 = .ok (.getfield 16, 3) := by decide +kernel
theorem dX4_above_34 : decode cX4_above 34 = .ok (.iload_n 2, 1) := by decide +kernel
theorem dX4_above_35 : decode cX4_above 35 = .ok (.iaload, 1) := by decide +kernel
theorem dX4_above_36 : decode cX4_above 36 = .ok (.iconst 1, 1) := by decide +kernel
theorem dX4_above_37 : decode cX4_above 37 = .ok (.iadd, 1) := by decide +kernel
theorem dX4_above_38 : decode cX4_above 38 = .ok (.iload_n 1, 1) := by decide +kernel
theorem dX4_above_39 : decode cX4_above 39 = .ok (.if_icmp .ne 5, 3) := by decide +kernel
theorem dX4_above_42 : decode cX4_above 42 = .ok (.iload_n 2, 1) := by decide +kernel
theorem dX4_above_43 : decode cX4_above 43 = .ok (.ireturn, 1) := by decide +kernel
theorem dX4_above_44 : decode cX4_above 44 = .ok (.iinc 2 1, 3) := by decide +kernel
theorem dX4_above_47 : decode cX4_above 47 = .ok (.goto (-45), 3) := by decide +kernel
theorem dX4_above_50 : decode cX4_above 50 = .ok (.iconst (-1), 1) := by decide +kernel
theorem dX4_above_51 : decode cX4_above 51 = .ok (.ireturn, 1) := by decide +kernel
set_option maxRecDepth 20000 in
theorem ggX4_lengthAt_X4_above : GoodIn wsX4_lengthAt wsX4_above := goodIn_r _ [5, 6, 7, 8, 9, 10, 11, 12, 13, 14, 15, 16, 17, 18, 19] (by decide +kernel) (by decide +kernel)
set_option maxRecDepth 20000 in
theorem gX4_lengthAt_X4_above : GoodIn wsX4_lengthAt (wsV RX4 40 RX4 yX4_above wsX4_above) := goodIn_app (goodIn_of _ (by decide +kernel)) ggX4_lengthAt_X4_above
theorem dX4_lengthAt_0 : decode cX4_lengthAt 0 = .ok (.iconst 0, 1) := by decide +kernel
theorem dX4_lengthAt_1 : decode cX4_lengthAt 1 = .ok (.istore_n 2, 1) := by decide +kernel
theorem dX4_lengthAt_2 : decode cX4_lengthAt 2 = .ok (.aload_n 0, 1) := by decide +kernel
theorem dX4_lengthAt_3 : decode cX4_lengthAt 3 = .ok (.iload_n 1, 1) := by decide +kernel
theorem dX4_lengthAt_4 : decode cX4_lengthAt 4 = .ok (.invokevirtual 40, 3) := by decide +kernel
theorem dX4_lengthAt_7 : decode cX4_lengthAt 7 = .ok (.istore_n 3, 1) := by decide +kernel
theorem dX4_lengthAt_8 : decode cX4_lengthAt 8 = .ok (.iload_n 3, 1) := by decide +kernel
theorem dX4_lengthAt_9 : decode cX4_lengthAt 9 = .ok (.iconst (-1), 1) := by decide +kernel
theorem dX4_lengthAt_10 : decode cX4_lengthAt 10 = .ok (.if_icmp .eq 15, 3) := by decide +kernel
theorem dX4_lengthAt_13 : decode cX4_lengthAt 13 = .ok (.iinc 2 1, 3) := by decide +kernel
theorem dX4_lengthAt_16 : decode cX4_lengthAt 16 = .ok (.aload_n 0, 1) := by decide +kernel
theorem dX4_lengthAt_17 : decode cX4_lengthAt 17 = .ok (.iload_n 3, 1) := by decide +kernel
theorem dX4_lengthAt_18 : decode cX4_lengthAt 18 = .ok (.invokevirtual 40, 3) := by decide +kernel
theorem dX4_lengthAt_21 : decode cX4_lengthAt 21 = .ok (.istore_n 3, 1) := by decide +kernel
theorem dX4_lengthAt_22 : decode cX4_lengthAt 22 = .ok (.goto (-14), 3) := by decide +kernel
theorem dX4_lengthAt_25 : decode cX4_lengthAt 25 = .ok (.iload_n 2, 1) := by decide +kernel
theorem dX4_lengthAt_26 : decode cX4_lengthAt 26 = .ok (.ireturn, 1) := by decide +kernel
set_option maxRecDepth 20000 in
theorem ggX4_codeAt_X4_above : GoodIn wsX4_codeAt wsX4_above := goodIn_r _ [6, 7, 1, 8, 9, 10, 11, 12, 13, 14, 15, 16, 17, 18, 19] (by decide +kernel) (by decide +kernel)
set_option maxRecDepth 20000 in
theorem gX4_codeAt_X4_above : GoodIn wsX4_codeAt (wsV RX4 40 RX4 yX4_above wsX4_above) := goodIn_app (goodIn_of _ (by decide +kernel)) ggX4_codeAt_X4_above
theorem dX4_codeAt_0 : decode cX4_codeAt 0 = .ok (.iconst 0, 1) := by decide +kernel
theorem dX4_codeAt_1 : decode cX4_codeAt 1 = .ok (.istore_n 2, 1) := by decide +kernel
theorem dX4_codeAt_2 : decode cX4_codeAt 2 = .ok (.iconst 1, 1) := by decide +kernel
theorem dX4_codeAt_3 : decode cX4_codeAt 3 = .ok (.istore_n 3, 1) := by decide +kernel
theorem dX4_codeAt_4 : decode cX4_codeAt 4 = .ok (.iload_n 1, 1) := by decide +kernel
theorem dX4_codeAt_5 : decode cX4_codeAt 5 = .ok (.istore 4, 2) := by decide +kernel
theorem dX4_codeAt_7 : decode cX4_codeAt 7 = .ok (.aload_n 0, 1) := by decide +kernel
theorem dX4_codeAt_8 : decode cX4_codeAt 8 = .ok (.iload 4, 2) := by decide +kernel
theorem dX4_codeAt_10 : decode cX4_codeAt 10 = .ok (.invokevirtual 40, 3) := by decide +kernel
theorem dX4_codeAt_13 : decode cX4_codeAt 13 = .ok (.istore 5, 2) := by decide +kernel
theorem dX4_codeAt_15 : decode cX4_codeAt 15 = .ok (.iload 5, 2) := by decide +kernel
theorem dX4_codeAt_17 : decode cX4_codeAt 17 = .ok (.iconst (-1), 1) := by decide +kernel
theorem dX4_codeAt_18 : decode cX4_codeAt 18 = .ok (.if_icmp .eq 38, 3) := by decide +kernel
theorem dX4_codeAt_21 : decode cX4_codeAt 21 = .ok (.aload_n 0, 1) := by decide +kernel
theorem dX4_codeAt_22 : decode cX4_codeAt 22 = .ok (.getfield 16, 3) := by decide +kernel
theorem dX4_codeAt_25 : decode cX4_codeAt 25 = .ok (.iload 5, 2) := by decide +kernel
theorem dX4_codeAt_27 : decode cX4_codeAt 27 = .ok (.iaload, 1) := by decide +kernel
theorem dX4_codeAt_28 : decode cX4_codeAt 28 = .ok (.iload 4, 2) := by decide +kernel
theorem dX4_codeAt_30 : decode cX4_codeAt 30 = .ok (.if_icmp .eq 7, 3) := by decide +kernel
theorem dX4_codeAt_33 : decode cX4_codeAt 33 = .ok (.iload_n 2, 1) := by decide +kernel
theorem dX4_codeAt_34 : decode cX4_codeAt 34 = .ok (.iload_n 3, 1) := by decide +kernel
theorem dX4_codeAt_35 : decode cX4_codeAt 35 = .ok (.iadd, 1) := by decide +kernel
theorem dX4_codeAt_36 : decode cX4_codeAt 36 = .ok (.istore_n 2, 1) := by decide +kernel
theorem dX4_codeAt_37 : decode cX4_codeAt 37 = .ok (.iload_n 3, 1) := by decide +kernel
theorem dX4_codeAt_38 : decode cX4_codeAt 38 = .ok (.iconst 2, 1) := by decide +kernel
theorem dX4_codeAt_39 : decode cX4_codeAt 39 = .ok (.imul, 1) := by decide +kernel
theorem dX4_codeAt_40 : decode cX4_codeAt 40 = .ok (.istore_n 3, 1) := by decide +kernel
theorem dX4_codeAt_41 : decode cX4_codeAt 41 = .ok (.iload 5, 2) := by decide +kernel
theorem dX4_codeAt_43 : decode cX4_codeAt 43 = .ok (.istore 4, 2) := by decide +kernel
theorem dX4_codeAt_45 : decode cX4_codeAt 45 = .ok (.aload_n 0, 1) := by decide +kernel
theorem dX4_codeAt_46 : decode cX4_codeAt 46 = .ok (.iload 4, 2) := by decide +kernel
theorem dX4_codeAt_48 : decode cX4_codeAt 48 = .ok (.invokevirtual 40, 3) := by decide +kernel
theorem dX4_codeAt_51 : decode cX4_codeAt 51 = .ok (.istore 5, 2) := by decide +kernel
theorem dX4_codeAt_53 : decode cX4_codeAt 53 = .ok (.goto (-38), 3) := by decide +kernel
theorem dX4_codeAt_56 : decode cX4_codeAt 56 = .ok (.iload_n 2, 1) := by decide +kernel
theorem dX4_codeAt_57 : decode cX4_codeAt 57 = .ok (.ireturn, 1) := by decide +kernel
set_option maxRecDepth 20000 in
theorem ggX4_bitsOf_X4_placeOf : GoodIn wsX4_bitsOf wsX4_placeOf := goodIn_r _ [5, 6, 7, 17, 18, 19, 20, 21, 22, 23, 24, 25, 26, 27, 28] (by decide +kernel) (by decide +kernel)
set_option maxRecDepth 20000 in
theorem gX4_bitsOf_X4_placeOf : GoodIn wsX4_bitsOf (wsV RX4 44 RX4 yX4_placeOf wsX4_placeOf) := goodIn_app (goodIn_of _ (by decide +kernel)) ggX4_bitsOf_X4_placeOf
set_option maxRecDepth 20000 in
theorem ggX4_bitsOf_X4_lengthAt : GoodIn wsX4_bitsOf wsX4_lengthAt := goodIn_r _ [11, 12, 13, 14, 4, 15, 6, 16, 17, 18, 19, 20, 21, 22, 23, 24, 25, 26, 27, 28] (by decide +kernel) (by decide +kernel)
set_option maxRecDepth 20000 in
theorem gX4_bitsOf_X4_lengthAt : GoodIn wsX4_bitsOf (wsV RX4 47 RX4 yX4_lengthAt wsX4_lengthAt) := goodIn_app (goodIn_of _ (by decide +kernel)) ggX4_bitsOf_X4_lengthAt
theorem dX4_bitsOf_0 : decode cX4_bitsOf 0 = .ok (.aload_n 0, 1) := by decide +kernel
theorem dX4_bitsOf_1 : decode cX4_bitsOf 1 = .ok (.iload_n 1, 1) := by decide +kernel
theorem dX4_bitsOf_2 : decode cX4_bitsOf 2 = .ok (.invokevirtual 44, 3) := by decide +kernel
theorem dX4_bitsOf_5 : decode cX4_bitsOf 5 = .ok (.istore_n 2, 1) := by decide +kernel
theorem dX4_bitsOf_6 : decode cX4_bitsOf 6 = .ok (.iload_n 2, 1) := by decide +kernel
theorem dX4_bitsOf_7 : decode cX4_bitsOf 7 = .ok (.iconst (-1), 1) := by decide +kernel
theorem dX4_bitsOf_8 : decode cX4_bitsOf 8 = .ok (.if_icmp .ne 18, 3) := by decide +kernel
theorem dX4_bitsOf_11 : decode cX4_bitsOf 11 = .ok (.aload_n 0, 1) := by decide +kernel
theorem dX4_bitsOf_12 : decode cX4_bitsOf 12 = .ok (.aload_n 0, 1) := by decide +kernel
theorem dX4_bitsOf_13 : decode cX4_bitsOf 13 = .ok (.bipush 32, 2) := by decide +kernel
theorem dX4_bitsOf_15 : decode cX4_bitsOf 15 = .ok (.invokevirtual 44, 3) := by decide +kernel
theorem dX4_bitsOf_18 : decode cX4_bitsOf 18 = .ok (.invokevirtual 47, 3) := by decide +kernel
theorem dX4_bitsOf_21 : decode cX4_bitsOf 21 = .ok (.iconst 5, 1) := by decide +kernel
theorem dX4_bitsOf_22 : decode cX4_bitsOf 22 = .ok (.iadd, 1) := by decide +kernel
theorem dX4_bitsOf_23 : decode cX4_bitsOf 23 = .ok (.goto 8, 3) := by decide +kernel
theorem dX4_bitsOf_26 : decode cX4_bitsOf 26 = .ok (.aload_n 0, 1) := by decide +kernel
theorem dX4_bitsOf_27 : decode cX4_bitsOf 27 = .ok (.iload_n 2, 1) := by decide +kernel
theorem dX4_bitsOf_28 : decode cX4_bitsOf 28 = .ok (.invokevirtual 47, 3) := by decide +kernel
theorem dX4_bitsOf_31 : decode cX4_bitsOf 31 = .ok (.ireturn, 1) := by decide +kernel
set_option maxRecDepth 20000 in
theorem ggX4_change_X4_set : GoodIn wsX4_change wsX4_set := goodIn_r _ [9, 1, 2, 3, 10, 11, 12, 13, 14, 15, 16, 17, 18, 19, 20, 21] (by decide +kernel) (by decide +kernel)
set_option maxRecDepth 20000 in
theorem gX4_change_X4_set : GoodIn wsX4_change (wsV RX4 29 RX4 yX4_set wsX4_set) := goodIn_app (goodIn_of _ (by decide +kernel)) ggX4_change_X4_set
theorem dX4_change_0 : decode cX4_change 0 = .ok (.aload_n 0, 1) := by decide +kernel
theorem dX4_change_1 : decode cX4_change 1 = .ok (.getfield 9, 3) := by decide +kernel
theorem dX4_change_4 : decode cX4_change 4 = .ok (.iload_n 1, 1) := by decide +kernel
theorem dX4_change_5 : decode cX4_change 5 = .ok (.iaload, 1) := by decide +kernel
theorem dX4_change_6 : decode cX4_change 6 = .ok (.istore_n 3, 1) := by decide +kernel
theorem dX4_change_7 : decode cX4_change 7 = .ok (.aload_n 0, 1) := by decide +kernel
theorem dX4_change_8 : decode cX4_change 8 = .ok (.getfield 13, 3) := by decide +kernel
theorem dX4_change_11 : decode cX4_change 11 = .ok (.iload_n 1, 1) := by decide +kernel
theorem dX4_change_12 : decode cX4_change 12 = .ok (.iaload, 1) := by decide +kernel
theorem dX4_change_13 : decode cX4_change 13 = .ok (.istore 4, 2) := by decide +kernel
theorem dX4_change_15 : decode cX4_change 15 = .ok (.aload_n 0, 1) := by decide +kernel
theorem dX4_change_16 : decode cX4_change 16 = .ok (.getfield 16, 3) := by decide +kernel
theorem dX4_change_19 : decode cX4_change 19 = .ok (.iload_n 1, 1) := by decide +kernel
theorem dX4_change_20 : decode cX4_change 20 = .ok (.iaload, 1) := by decide +kernel
theorem dX4_change_21 : decode cX4_change 21 = .ok (.istore 5, 2) := by decide +kernel
theorem dX4_change_23 : decode cX4_change 23 = .ok (.aload_n 0, 1) := by decide +kernel
theorem dX4_change_24 : decode cX4_change 24 = .ok (.iload_n 1, 1) := by decide +kernel
theorem dX4_change_25 : decode cX4_change 25 = .ok (.aload_n 0, 1) := by decide +kernel
theorem dX4_change_26 : decode cX4_change 26 = .ok (.getfield 9, 3) := by decide +kernel
theorem dX4_change_29 : decode cX4_change 29 = .ok (.iload_n 2, 1) := by decide +kernel
theorem dX4_change_30 : decode cX4_change 30 = .ok (.iaload, 1) := by decide +kernel
theorem dX4_change_31 : decode cX4_change 31 = .ok (.aload_n 0, 1) := by decide +kernel
theorem dX4_change_32 : decode cX4_change 32 = .ok (.getfield 13, 3) := by decide +kernel
theorem dX4_change_35 : decode cX4_change 35 = .ok (.iload_n 2, 1) := by decide +kernel
theorem dX4_change_36 : decode cX4_change 36 = .ok (.iaload, 1) := by decide +kernel
theorem dX4_change_37 : decode cX4_change 37 = .ok (.aload_n 0, 1) := by decide +kernel
theorem dX4_change_38 : decode cX4_change 38 = .ok (.getfield 16, 3) := by decide +kernel
theorem dX4_change_41 : decode cX4_change 41 = .ok (.iload_n 2, 1) := by decide +kernel
theorem dX4_change_42 : decode cX4_change 42 = .ok (.iaload, 1) := by decide +kernel
theorem dX4_change_43 : decode cX4_change 43 = .ok (.invokevirtual 29, 3) := by decide +kernel
theorem dX4_change_46 : decode cX4_change 46 = .ok (.aload_n 0, 1) := by decide +kernel
theorem dX4_change_47 : decode cX4_change 47 = .ok (.iload_n 2, 1) := by decide +kernel
theorem dX4_change_48 : decode cX4_change 48 = .ok (.iload_n 3, 1) := by decide +kernel
theorem dX4_change_49 : decode cX4_change 49 = .ok (.iload 4, 2) := by decide +kernel
theorem dX4_change_51 : decode cX4_change 51 = .ok (.iload 5, 2) := by decide +kernel
theorem dX4_change_53 : decode cX4_change 53 = .ok (.invokevirtual 29, 3) := by decide +kernel
theorem dX4_change_56 : decode cX4_change 56 = .ok (.aload_n 0, 1) := by decide +kernel
theorem dX4_change_57 : decode cX4_change 57 = .ok (.dup, 1) := by decide +kernel
theorem dX4_change_58 : decode cX4_change 58 = .ok (.getfield 50, 3) := by decide +kernel
theorem dX4_change_61 : decode cX4_change 61 = .ok (.iconst 1, 1) := by decide +kernel
theorem dX4_change_62 : decode cX4_change 62 = .ok (.iadd, 1) := by decide +kernel
theorem dX4_change_63 : decode cX4_change 63 = .ok (.putfield 50, 3) := by decide +kernel
theorem dX4_change_66 : decode cX4_change 66 = .ok (.return_, 1) := by decide +kernel
theorem dX4_asHeavy_0 : decode cX4_asHeavy 0 = .ok (.iconst 0, 1) := by decide +kernel
theorem dX4_asHeavy_1 : decode cX4_asHeavy 1 = .ok (.istore_n 2, 1) := by decide +kernel
theorem dX4_asHeavy_2 : decode cX4_asHeavy 2 = .ok (.aload_n 0, 1) := by decide +kernel
theorem dX4_asHeavy_3 : decode cX4_asHeavy 3 = .ok (.getfield 9, 3) := by decide +kernel
theorem dX4_asHeavy_6 : decode cX4_asHeavy 6 = .ok (.iload_n 2, 1) := by decide +kernel
theorem dX4_asHeavy_7 : decode cX4_asHeavy 7 = .ok (.iaload, 1) := by decide +kernel
theorem dX4_asHeavy_8 : decode cX4_asHeavy 8 = .ok (.aload_n 0, 1) := by decide +kernel
theorem dX4_asHeavy_9 : decode cX4_asHeavy 9 = .ok (.getfield 9, 3) := by decide +kernel
theorem dX4_asHeavy_12 : decode cX4_asHeavy 12 = .ok (.iload_n 1, 1) := by decide +kernel
theorem dX4_asHeavy_13 : decode cX4_asHeavy 13 = .ok (.iaload, 1) := by decide +kernel
theorem dX4_asHeavy_14 : decode cX4_asHeavy 14 = .ok (.if_icmp .eq 9, 3) := by decide +kernel
theorem dX4_asHeavy_17 : decode cX4_asHeavy 17 = .ok (.iinc 2 1, 3) := by decide +kernel
theorem dX4_asHeavy_20 : decode cX4_asHeavy 20 = .ok (.goto (-18), 3) := by decide +kernel
theorem dX4_asHeavy_23 : decode cX4_asHeavy 23 = .ok (.iload_n 2, 1) := by decide +kernel
theorem dX4_asHeavy_24 : decode cX4_asHeavy 24 = .ok (.ireturn, 1) := by decide +kernel
set_option maxRecDepth 20000 in
theorem ggX4_add_X4_placeOf : GoodIn wsX4_add wsX4_placeOf := goodIn_r _ [6, 1, 7, 14, 15, 16, 17, 18, 19, 20, 21, 22, 23, 24, 25] (by decide +kernel) (by decide +kernel)
set_option maxRecDepth 20000 in
theorem gX4_add_X4_placeOf : GoodIn wsX4_add (wsV RX4 44 RX4 yX4_placeOf wsX4_placeOf) := goodIn_app (goodIn_of _ (by decide +kernel)) ggX4_add_X4_placeOf
set_option maxRecDepth 20000 in
theorem ggX4_add_X4_set : GoodIn wsX4_add wsX4_set := goodIn_r _ [11, 12, 7, 13, 14, 15, 16, 17, 18, 19, 20, 21, 22, 23, 24, 25] (by decide +kernel) (by decide +kernel)
set_option maxRecDepth 20000 in
theorem gX4_add_X4_set : GoodIn wsX4_add (wsV RX4 29 RX4 yX4_set wsX4_set) := goodIn_app (goodIn_of _ (by decide +kernel)) ggX4_add_X4_set
theorem dX4_add_0 : decode cX4_add 0 = .ok (.aload_n 0, 1) := by decide +kernel
theorem dX4_add_1 : decode cX4_add 1 = .ok (.bipush 32, 2) := by decide +kernel
theorem dX4_add_3 : decode cX4_add 3 = .ok (.invokevirtual 44, 3) := by decide +kernel
theorem dX4_add_6 : decode cX4_add 6 = .ok (.istore_n 2, 1) := by decide +kernel
theorem dX4_add_7 : decode cX4_add 7 = .ok (.aload_n 0, 1) := by decide +kernel
theorem dX4_add_8 : decode cX4_add 8 = .ok (.iload_n 2, 1) := by decide +kernel
theorem dX4_add_9 : decode cX4_add 9 = .ok (.iconst 1, 1) := by decide +kernel
theorem dX4_add_10 : decode cX4_add 10 = .ok (.iconst (-1), 1) := by decide +kernel
theorem dX4_add_11 : decode cX4_add 11 = .ok (.aload_n 0, 1) := by decide +kernel
theorem dX4_add_12 : decode cX4_add 12 = .ok (.getfield 19, 3) := by decide +kernel
theorem dX4_add_15 : decode cX4_add 15 = .ok (.invokevirtual 29, 3) := by decide +kernel
theorem dX4_add_18 : decode cX4_add 18 = .ok (.aload_n 0, 1) := by decide +kernel
theorem dX4_add_19 : decode cX4_add 19 = .ok (.aload_n 0, 1) := by decide +kernel
theorem dX4_add_20 : decode cX4_add 20 = .ok (.getfield 19, 3) := by decide +kernel
theorem dX4_add_23 : decode cX4_add 23 = .ok (.iconst 1, 1) := by decide +kernel
theorem dX4_add_24 : decode cX4_add 24 = .ok (.bipush 32, 2) := by decide +kernel
theorem dX4_add_26 : decode cX4_add 26 = .ok (.iconst (-1), 1) := by decide +kernel
theorem dX4_add_27 : decode cX4_add 27 = .ok (.invokevirtual 29, 3) := by decide +kernel
theorem dX4_add_30 : decode cX4_add 30 = .ok (.aload_n 0, 1) := by decide +kernel
theorem dX4_add_31 : decode cX4_add 31 = .ok (.aload_n 0, 1) := by decide +kernel
theorem dX4_add_32 : decode cX4_add 32 = .ok (.getfield 19, 3) := by decide +kernel
theorem dX4_add_35 : decode cX4_add 35 = .ok (.iconst 1, 1) := by decide +kernel
theorem dX4_add_36 : decode cX4_add 36 = .ok (.iadd, 1) := by decide +kernel
theorem dX4_add_37 : decode cX4_add 37 = .ok (.iconst 0, 1) := by decide +kernel
theorem dX4_add_38 : decode cX4_add 38 = .ok (.iload_n 1, 1) := by decide +kernel
theorem dX4_add_39 : decode cX4_add 39 = .ok (.iconst (-1), 1) := by decide +kernel
theorem dX4_add_40 : decode cX4_add 40 = .ok (.invokevirtual 29, 3) := by decide +kernel
theorem dX4_add_43 : decode cX4_add 43 = .ok (.aload_n 0, 1) := by decide +kernel
theorem dX4_add_44 : decode cX4_add 44 = .ok (.dup, 1) := by decide +kernel
theorem dX4_add_45 : decode cX4_add 45 = .ok (.getfield 19, 3) := by decide +kernel
theorem dX4_add_48 : decode cX4_add 48 = .ok (.iconst 2, 1) := by decide +kernel
theorem dX4_add_49 : decode cX4_add 49 = .ok (.iadd, 1) := by decide +kernel
theorem dX4_add_50 : decode cX4_add 50 = .ok (.putfield 19, 3) := by decide +kernel
theorem dX4_add_53 : decode cX4_add 53 = .ok (.return_, 1) := by decide +kernel
set_option maxRecDepth 20000 in
theorem ggX4_useOne_X4_bitsOf : GoodIn wsX4_useOne wsX4_bitsOf := goodIn_r _ [9, 10, 11, 12, 8, 13, 14, 15, 16, 17, 18, 19, 20, 21, 22, 23, 24, 72, 73, 74, 75, 76, 77, 78, 79, 80, 81, 82, 83] (by decide +kernel) (by decide +kernel)
set_option maxRecDepth 20000 in
theorem gX4_useOne_X4_bitsOf : GoodIn wsX4_useOne (wsV RX4 53 RX4 yX4_bitsOf wsX4_bitsOf) := goodIn_app (goodIn_of _ (by decide +kernel)) ggX4_useOne_X4_bitsOf
set_option maxRecDepth 20000 in
theorem ggX4_useOne_X4_placeOf : GoodIn wsX4_useOne wsX4_placeOf := goodIn_r _ [13, 14, 15, 72, 73, 74, 75, 76, 77, 78, 79, 80, 81, 82, 83] (by decide +kernel) (by decide +kernel)
set_option maxRecDepth 20000 in
theorem gX4_useOne_X4_placeOf : GoodIn wsX4_useOne (wsV RX4 44 RX4 yX4_placeOf wsX4_placeOf) := goodIn_app (goodIn_of _ (by decide +kernel)) ggX4_useOne_X4_placeOf
set_option maxRecDepth 20000 in
theorem ggX4_useOne_X4_add : GoodIn wsX4_useOne wsX4_add := goodIn_r _ [28, 14, 10, 11, 12, 8, 13, 15, 29, 30, 31, 32, 1, 24, 72, 73, 74, 75, 76, 77, 78, 79, 80, 81, 82, 83] (by decide +kernel) (by decide +kernel)
set_option maxRecDepth 20000 in
theorem gX4_useOne_X4_add : GoodIn wsX4_useOne (wsV RX4 56 RX4 yX4_add wsX4_add) := goodIn_app (goodIn_of _ (by decide +kernel)) ggX4_useOne_X4_add
set_option maxRecDepth 20000 in
theorem ggX4_useOne_X4_asHeavy : GoodIn wsX4_useOne wsX4_asHeavy := goodIn_r _ [36, 1, 72, 73, 74, 75, 76, 77, 78, 79, 80, 81, 82, 83] (by decide +kernel) (by decide +kernel)
set_option maxRecDepth 20000 in
theorem gX4_useOne_X4_asHeavy : GoodIn wsX4_useOne (wsV RX4 60 RX4 yX4_asHeavy wsX4_asHeavy) := goodIn_app (goodIn_of _ (by decide +kernel)) ggX4_useOne_X4_asHeavy
set_option maxRecDepth 20000 in
theorem ggX4_useOne_X4_change : GoodIn wsX4_useOne wsX4_change := goodIn_r _ [40, 1, 15, 24, 41, 29, 30, 31, 8, 32, 72, 73, 74, 75, 76, 77, 78, 79, 80, 81, 82, 83] (by decide +kernel) (by decide +kernel)
set_option maxRecDepth 20000 in
theorem gX4_useOne_X4_change : GoodIn wsX4_useOne (wsV RX4 63 RX4 yX4_change wsX4_change) := goodIn_app (goodIn_of _ (by decide +kernel)) ggX4_useOne_X4_change
set_option maxRecDepth 20000 in
theorem ggX4_useOne_X4_above : GoodIn wsX4_useOne wsX4_above := goodIn_r _ [23, 14, 24, 72, 73, 74, 75, 76, 77, 78, 79, 80, 81, 82, 83] (by decide +kernel) (by decide +kernel)
set_option maxRecDepth 20000 in
theorem gX4_useOne_X4_above : GoodIn wsX4_useOne (wsV RX4 40 RX4 yX4_above wsX4_above) := goodIn_app (goodIn_of _ (by decide +kernel)) ggX4_useOne_X4_above
set_option maxRecDepth 20000 in
theorem ggX4_useOne_X4_wearAll : GoodIn wsX4_useOne wsX4_wearAll := goodIn_r _ [45, 46, 14, 15, 1, 47, 48, 49, 50, 51, 8, 52, 53, 54, 55, 56, 57, 58, 59, 60, 61, 62, 63, 64, 65, 66, 67, 68, 69, 70, 71, 29, 30, 31, 32, 24, 72, 73, 74, 75, 76, 77, 78, 79, 80, 81, 82, 83] (by decide +kernel) (by decide +kernel)
set_option maxRecDepth 20000 in
theorem gX4_useOne_X4_wearAll : GoodIn wsX4_useOne (wsV RX4 73 RX4 yX4_wearAll wsX4_wearAll) := goodIn_app (goodIn_of _ (by decide +kernel)) ggX4_useOne_X4_wearAll
theorem dX4_useOne_0 : decode cX4_useOne 0 = .ok (.aload_n 0, 1) := by decide +kernel
theorem dX4_useOne_1 : decode cX4_useOne 1 = .ok (.iload_n 1, 1) := by decide +kernel
theorem dX4_useOne_2 : decode cX4_useOne 2 = .ok (.invokevirtual 53, 3) := by decide +kernel
theorem dX4_useOne_5 : decode cX4_useOne 5 = .ok (.istore_n 2, 1) := by decide +kernel
theorem dX4_useOne_6 : decode cX4_useOne 6 = .ok (.aload_n 0, 1) := by decide +kernel
theorem dX4_useOne_7 : decode cX4_useOne 7 = .ok (.iload_n 1, 1) := by decide +kernel
theorem dX4_useOne_8 : decode cX4_useOne 8 = .ok (.invokevirtual 44, 3) := by decide +kernel
theorem dX4_useOne_11 : decode cX4_useOne 11 = .ok (.iconst (-1), 1) := by decide +kernel
theorem dX4_useOne_12 : decode cX4_useOne 12 = .ok (.if_icmp .ne 8, 3) := by decide +kernel
theorem dX4_useOne_15 : decode cX4_useOne 15 = .ok (.aload_n 0, 1) := by decide +kernel
theorem dX4_useOne_16 : decode cX4_useOne 16 = .ok (.iload_n 1, 1) := by decide +kernel
theorem dX4_useOne_17 : decode cX4_useOne 17 = .ok (.invokevirtual 56, 3) := by decide +kernel
theorem dX4_useOne_20 : decode cX4_useOne 20 = .ok (.aload_n 0, 1) := by decide +kernel
theorem dX4_useOne_21 : decode cX4_useOne 21 = .ok (.iload_n 1, 1) := by decide +kernel
theorem dX4_useOne_22 : decode cX4_useOne 22 = .ok (.invokevirtual 44, 3) := by decide +kernel
theorem dX4_useOne_25 : decode cX4_useOne 25 = .ok (.istore_n 3, 1) := by decide +kernel
theorem dX4_useOne_26 : decode cX4_useOne 26 = .ok (.iload_n 3, 1) := by decide +kernel
theorem dX4_useOne_27 : decode cX4_useOne 27 = .ok (.iconst (-1), 1) := by decide +kernel
theorem dX4_useOne_28 : decode cX4_useOne 28 = .ok (.if_icmp .eq 45, 3) := by decide +kernel
theorem dX4_useOne_31 : decode cX4_useOne 31 = .ok (.aload_n 0, 1) := by decide +kernel
theorem dX4_useOne_32 : decode cX4_useOne 32 = .ok (.iload_n 3, 1) := by decide +kernel
theorem dX4_useOne_33 : decode cX4_useOne 33 = .ok (.invokevirtual 60, 3) := by decide +kernel
theorem dX4_useOne_36 : decode cX4_useOne 36 = .ok (.istore 4, 2) := by decide +kernel
theorem dX4_useOne_38 : decode cX4_useOne 38 = .ok (.iload 4, 2) := by decide +kernel
theorem dX4_useOne_40 : decode cX4_useOne 40 = .ok (.iload_n 3, 1) := by decide +kernel
theorem dX4_useOne_41 : decode cX4_useOne 41 = .ok (.if_icmp .eq 10, 3) := by decide +kernel
theorem dX4_useOne_44 : decode cX4_useOne 44 = .ok (.aload_n 0, 1) := by decide +kernel
theorem dX4_useOne_45 : decode cX4_useOne 45 = .ok (.iload 4, 2) := by decide +kernel
theorem dX4_useOne_47 : decode cX4_useOne 47 = .ok (.iload_n 3, 1) := by decide +kernel
theorem dX4_useOne_48 : decode cX4_useOne 48 = .ok (.invokevirtual 63, 3) := by decide +kernel
theorem dX4_useOne_51 : decode cX4_useOne 51 = .ok (.iload 4, 2) := by decide +kernel
theorem dX4_useOne_53 : decode cX4_useOne 53 = .ok (.istore_n 3, 1) := by decide +kernel
theorem dX4_useOne_54 : decode cX4_useOne 54 = .ok (.aload_n 0, 1) := by decide +kernel
theorem dX4_useOne_55 : decode cX4_useOne 55 = .ok (.getfield 9, 3) := by decide +kernel
theorem dX4_useOne_58 : decode cX4_useOne 58 = .ok (.iload_n 3, 1) := by decide +kernel
theorem dX4_useOne_59 : decode cX4_useOne 59 = .ok (.dup2, 1) := by decide +kernel
theorem dX4_useOne_60 : decode cX4_useOne 60 = .ok (.iaload, 1) := by decide +kernel
theorem dX4_useOne_61 : decode cX4_useOne 61 = .ok (.iconst 1, 1) := by decide +kernel
theorem dX4_useOne_62 : decode cX4_useOne 62 = .ok (.iadd, 1) := by decide +kernel
theorem dX4_useOne_63 : decode cX4_useOne 63 = .ok (.iastore, 1) := by decide +kernel
theorem dX4_useOne_64 : decode cX4_useOne 64 = .ok (.aload_n 0, 1) := by decide +kernel
theorem dX4_useOne_65 : decode cX4_useOne 65 = .ok (.iload_n 3, 1) := by decide +kernel
theorem dX4_useOne_66 : decode cX4_useOne 66 = .ok (.invokevirtual 40, 3) := by decide +kernel
theorem dX4_useOne_69 : decode cX4_useOne 69 = .ok (.istore_n 3, 1) := by decide +kernel
theorem dX4_useOne_70 : decode cX4_useOne 70 = .ok (.goto (-44), 3) := by decide +kernel
theorem dX4_useOne_73 : decode cX4_useOne 73 = .ok (.aload_n 0, 1) := by decide +kernel
theorem dX4_useOne_74 : decode cX4_useOne 74 = .ok (.dup, 1) := by decide +kernel
theorem dX4_useOne_75 : decode cX4_useOne 75 = .ok (.getfield 67, 3) := by decide +kernel
theorem dX4_useOne_78 : decode cX4_useOne 78 = .ok (.iconst 1, 1) := by decide +kernel
theorem dX4_useOne_79 : decode cX4_useOne 79 = .ok (.iadd, 1) := by decide +kernel
theorem dX4_useOne_80 : decode cX4_useOne 80 = .ok (.putfield 67, 3) := by decide +kernel
theorem dX4_useOne_83 : decode cX4_useOne 83 = .ok (.aload_n 0, 1) := by decide +kernel
theorem dX4_useOne_84 : decode cX4_useOne 84 = .ok (.dup, 1) := by decide +kernel
theorem dX4_useOne_85 : decode cX4_useOne 85 = .ok (.getfield 70, 3) := by decide +kernel
theorem dX4_useOne_88 : decode cX4_useOne 88 = .ok (.iload_n 2, 1) := by decide +kernel
theorem dX4_useOne_89 : decode cX4_useOne 89 = .ok (.iadd, 1) := by decide +kernel
theorem dX4_useOne_90 : decode cX4_useOne 90 = .ok (.putfield 70, 3) := by decide +kernel
theorem dX4_useOne_93 : decode cX4_useOne 93 = .ok (.aload_n 0, 1) := by decide +kernel
theorem dX4_useOne_94 : decode cX4_useOne 94 = .ok (.getfield 9, 3) := by decide +kernel
theorem dX4_useOne_97 : decode cX4_useOne 97 = .ok (.iconst 0, 1) := by decide +kernel
theorem dX4_useOne_98 : decode cX4_useOne 98 = .ok (.iaload, 1) := by decide +kernel
theorem dX4_useOne_99 : decode cX4_useOne 99 = .ok (.aload_n 0, 1) := by decide +kernel
theorem dX4_useOne_100 : decode cX4_useOne 100 = .ok (.getfield 23, 3) := by decide +kernel
theorem dX4_useOne_103 : decode cX4_useOne 103 = .ok (.if_icmp .lt 8, 3) := by decide +kernel
theorem dX4_useOne_106 : decode cX4_useOne 106 = .ok (.aload_n 0, 1) := by decide +kernel
theorem dX4_useOne_107 : decode cX4_useOne 107 = .ok (.invokevirtual 73, 3) := by decide +kernel
theorem dX4_useOne_110 : decode cX4_useOne 110 = .ok (.pop, 1) := by decide +kernel
theorem dX4_useOne_111 : decode cX4_useOne 111 = .ok (.iload_n 2, 1) := by decide +kernel
theorem dX4_useOne_112 : decode cX4_useOne 112 = .ok (.ireturn, 1) := by decide +kernel
theorem dX4_push_0 : decode cX4_push 0 = .ok (.aload_n 0, 1) := by decide +kernel
theorem dX4_push_1 : decode cX4_push 1 = .ok (.getfield 26, 3) := by decide +kernel
theorem dX4_push_4 : decode cX4_push 4 = .ok (.iconst 3, 1) := by decide +kernel
theorem dX4_push_5 : decode cX4_push 5 = .ok (.aload_n 0, 1) := by decide +kernel
theorem dX4_push_6 : decode cX4_push 6 = .ok (.getfield 77, 3) := by decide +kernel
theorem dX4_push_9 : decode cX4_push 9 = .ok (.imul, 1) := by decide +kernel
theorem dX4_push_10 : decode cX4_push 10 = .ok (.iload_n 1, 1) := by decide +kernel
theorem dX4_push_11 : decode cX4_push 11 = .ok (.iastore, 1) := by decide +kernel
theorem dX4_push_12 : decode cX4_push 12 = .ok (.aload_n 0, 1) := by decide +kernel
theorem dX4_push_13 : decode cX4_push 13 = .ok (.getfield 26, 3) := by decide +kernel
theorem dX4_push_16 : decode cX4_push 16 = .ok (.iconst 3, 1) := by decide +kernel
theorem dX4_push_17 : decode cX4_push 17 = .ok (.aload_n 0, 1) := by decide +kernel
theorem dX4_push_18 : decode cX4_push 18 = .ok (.getfield 77, 3) := by decide +kernel
theorem dX4_push_21 : decode cX4_push 21 = .ok (.imul, 1) := by decide +kernel
theorem dX4_push_22 : decode cX4_push 22 = .ok (.iconst 1, 1) := by decide +kernel
theorem dX4_push_23 : decode cX4_push 23 = .ok (.iadd, 1) := by decide +kernel
theorem dX4_push_24 : decode cX4_push 24 = .ok (.iload_n 2, 1) := by decide +kernel
theorem dX4_push_25 : decode cX4_push 25 = .ok (.iastore, 1) := by decide +kernel
theorem dX4_push_26 : decode cX4_push 26 = .ok (.aload_n 0, 1) := by decide +kernel
theorem dX4_push_27 : decode cX4_push 27 = .ok (.getfield 26, 3) := by decide +kernel
theorem dX4_push_30 : decode cX4_push 30 = .ok (.iconst 3, 1) := by decide +kernel
theorem dX4_push_31 : decode cX4_push 31 = .ok (.aload_n 0, 1) := by decide +kernel
theorem dX4_push_32 : decode cX4_push 32 = .ok (.getfield 77, 3) := by decide +kernel
theorem dX4_push_35 : decode cX4_push 35 = .ok (.imul, 1) := by decide +kernel
theorem dX4_push_36 : decode cX4_push 36 = .ok (.iconst 2, 1) := by decide +kernel
theorem dX4_push_37 : decode cX4_push 37 = .ok (.iadd, 1) := by decide +kernel
theorem dX4_push_38 : decode cX4_push 38 = .ok (.iload_n 3, 1) := by decide +kernel
theorem dX4_push_39 : decode cX4_push 39 = .ok (.iastore, 1) := by decide +kernel
theorem dX4_push_40 : decode cX4_push 40 = .ok (.aload_n 0, 1) := by decide +kernel
theorem dX4_push_41 : decode cX4_push 41 = .ok (.dup, 1) := by decide +kernel
theorem dX4_push_42 : decode cX4_push 42 = .ok (.getfield 77, 3) := by decide +kernel
theorem dX4_push_45 : decode cX4_push 45 = .ok (.iconst 1, 1) := by decide +kernel
theorem dX4_push_46 : decode cX4_push 46 = .ok (.iadd, 1) := by decide +kernel
theorem dX4_push_47 : decode cX4_push 47 = .ok (.putfield 77, 3) := by decide +kernel
theorem dX4_push_50 : decode cX4_push 50 = .ok (.return_, 1) := by decide +kernel
set_option maxRecDepth 20000 in
theorem ggX4_pull_X4_set : GoodIn wsX4_pull wsX4_set := goodIn_r _ [12, 7, 13, 14, 15, 16, 17, 18, 19, 20, 21, 22, 23, 24, 25, 26] (by decide +kernel) (by decide +kernel)
set_option maxRecDepth 20000 in
theorem gX4_pull_X4_set : GoodIn wsX4_pull (wsV RX4 29 RX4 yX4_set wsX4_set) := goodIn_app (goodIn_of _ (by decide +kernel)) ggX4_pull_X4_set
theorem dX4_pull_0 : decode cX4_pull 0 = .ok (.iconst 0, 1) := by decide +kernel
theorem dX4_pull_1 : decode cX4_pull 1 = .ok (.istore_n 2, 1) := by decide +kernel
theorem dX4_pull_2 : decode cX4_pull 2 = .ok (.iconst 1, 1) := by decide +kernel
theorem dX4_pull_3 : decode cX4_pull 3 = .ok (.istore_n 3, 1) := by decide +kernel
theorem dX4_pull_4 : decode cX4_pull 4 = .ok (.iload_n 3, 1) := by decide +kernel
theorem dX4_pull_5 : decode cX4_pull 5 = .ok (.aload_n 0, 1) := by decide +kernel
theorem dX4_pull_6 : decode cX4_pull 6 = .ok (.getfield 77, 3) := by decide +kernel
theorem dX4_pull_9 : decode cX4_pull 9 = .ok (.if_icmp .ge 30, 3) := by decide +kernel
theorem dX4_pull_12 : decode cX4_pull 12 = .ok (.aload_n 0, 1) := by decide +kernel
theorem dX4_pull_13 : decode cX4_pull 13 = .ok (.getfield 26, 3) := by decide +kernel
theorem dX4_pull_16 : decode cX4_pull 16 = .ok (.iconst 3, 1) := by decide +kernel
theorem dX4_pull_17 : decode cX4_pull 17 = .ok (.iload_n 3, 1) := by decide +kernel
theorem dX4_pull_18 : decode cX4_pull 18 = .ok (.imul, 1) := by decide +kernel
theorem dX4_pull_19 : decode cX4_pull 19 = .ok (.iaload, 1) := by decide +kernel
theorem dX4_pull_20 : decode cX4_pull 20 = .ok (.aload_n 0, 1) := by decide +kernel
theorem dX4_pull_21 : decode cX4_pull 21 = .ok (.getfield 26, 3) := by decide +kernel
theorem dX4_pull_24 : decode cX4_pull 24 = .ok (.iconst 3, 1) := by decide +kernel
theorem dX4_pull_25 : decode cX4_pull 25 = .ok (.iload_n 2, 1) := by decide +kernel
theorem dX4_pull_26 : decode cX4_pull 26 = .ok (.imul, 1) := by decide +kernel
theorem dX4_pull_27 : decode cX4_pull 27 = .ok (.iaload, 1) := by decide +kernel
theorem dX4_pull_28 : decode cX4_pull 28 = .ok (.if_icmp .ge 5, 3) := by decide +kernel
theorem dX4_pull_31 : decode cX4_pull 31 = .ok (.iload_n 3, 1) := by decide +kernel
theorem dX4_pull_32 : decode cX4_pull 32 = .ok (.istore_n 2, 1) := by decide +kernel
theorem dX4_pull_33 : decode cX4_pull 33 = .ok (.iinc 3 1, 3) := by decide +kernel
theorem dX4_pull_36 : decode cX4_pull 36 = .ok (.goto (-32), 3) := by decide +kernel
theorem dX4_pull_39 : decode cX4_pull 39 = .ok (.aload_n 0, 1) := by decide +kernel
theorem dX4_pull_40 : decode cX4_pull 40 = .ok (.iload_n 1, 1) := by decide +kernel
theorem dX4_pull_41 : decode cX4_pull 41 = .ok (.aload_n 0, 1) := by decide +kernel
theorem dX4_pull_42 : decode cX4_pull 42 = .ok (.getfield 26, 3) := by decide +kernel
theorem dX4_pull_45 : decode cX4_pull 45 = .ok (.iconst 3, 1) := by decide +kernel
theorem dX4_pull_46 : decode cX4_pull 46 = .ok (.iload_n 2, 1) := by decide +kernel
theorem dX4_pull_47 : decode cX4_pull 47 = .ok (.imul, 1) := by decide +kernel
theorem dX4_pull_48 : decode cX4_pull 48 = .ok (.iaload, 1) := by decide +kernel
theorem dX4_pull_49 : decode cX4_pull 49 = .ok (.aload_n 0, 1) := by decide +kernel
theorem dX4_pull_50 : decode cX4_pull 50 = .ok (.getfield 26, 3) := by decide +kernel
theorem dX4_pull_53 : decode cX4_pull 53 = .ok (.iconst 3, 1) := by decide +kernel
theorem dX4_pull_54 : decode cX4_pull 54 = .ok (.iload_n 2, 1) := by decide +kernel
theorem dX4_pull_55 : decode cX4_pull 55 = .ok (.imul, 1) := by decide +kernel
theorem dX4_pull_56 : decode cX4_pull 56 = .ok (.iconst 1, 1) := by decide +kernel
theorem dX4_pull_57 : decode cX4_pull 57 = .ok (.iadd, 1) := by decide +kernel
theorem dX4_pull_58 : decode cX4_pull 58 = .ok (.iaload, 1) := by decide +kernel
theorem dX4_pull_59 : decode cX4_pull 59 = .ok (.aload_n 0, 1) := by decide +kernel
theorem dX4_pull_60 : decode cX4_pull 60 = .ok (.getfield 26, 3) := by decide +kernel
theorem dX4_pull_63 : decode cX4_pull 63 = .ok (.iconst 3, 1) := by decide +kernel
theorem dX4_pull_64 : decode cX4_pull 64 = .ok (.iload_n 2, 1) := by decide +kernel
theorem dX4_pull_65 : decode cX4_pull 65 = .ok (.imul, 1) := by decide +kernel
theorem dX4_pull_66 : decode cX4_pull 66 = .ok (.iconst 2, 1) := by decide +kernel
theorem dX4_pull_67 : decode cX4_pull 67 = .ok (.iadd, 1) := by decide +kernel
theorem dX4_pull_68 : decode cX4_pull 68 = .ok (.iaload, 1) := by decide +kernel
theorem dX4_pull_69 : decode cX4_pull 69 = .ok (.invokevirtual 29, 3) := by decide +kernel
theorem dX4_pull_72 : decode cX4_pull 72 = .ok (.aload_n 0, 1) := by decide +kernel
theorem dX4_pull_73 : decode cX4_pull 73 = .ok (.dup, 1) := by decide +kernel
theorem dX4_pull_74 : decode cX4_pull 74 = .ok (.getfield 77, 3) := by decide +kernel
theorem dX4_pull_77 : decode cX4_pull 77 = .ok (.iconst 1, 1) := by decide +kernel
theorem dX4_pull_78 : decode cX4_pull 78 = .ok (.isub, 1) := by decide +kernel
theorem dX4_pull_79 : decode cX4_pull 79 = .ok (.putfield 77, 3) := by decide +kernel
theorem dX4_pull_82 : decode cX4_pull 82 = .ok (.aload_n 0, 1) := by decide +kernel
theorem dX4_pull_83 : decode cX4_pull 83 = .ok (.getfield 26, 3) := by decide +kernel
theorem dX4_pull_86 : decode cX4_pull 86 = .ok (.iconst 3, 1) := by decide +kernel
theorem dX4_pull_87 : decode cX4_pull 87 = .ok (.iload_n 2, 1) := by decide +kernel
theorem dX4_pull_88 : decode cX4_pull 88 = .ok (.imul, 1) := by decide +kernel
theorem dX4_pull_89 : decode cX4_pull 89 = .ok (.iconst 3, 1) := by decide +kernel
theorem dX4_pull_90 : decode cX4_pull 90 = .ok (.iadd, 1) := by decide +kernel
theorem dX4_pull_91 : decode cX4_pull 91 = .ok (.aload_n 0, 1) := by decide +kernel
theorem dX4_pull_92 : decode cX4_pull 92 = .ok (.getfield 26, 3) := by decide +kernel
theorem dX4_pull_95 : decode cX4_pull 95 = .ok (.iconst 3, 1) := by decide +kernel
theorem dX4_pull_96 : decode cX4_pull 96 = .ok (.iload_n 2, 1) := by decide +kernel
theorem dX4_pull_97 : decode cX4_pull 97 = .ok (.imul, 1) := by decide +kernel
theorem dX4_pull_98 : decode cX4_pull 98 = .ok (.iconst 3, 1) := by decide +kernel
theorem dX4_pull_99 : decode cX4_pull 99 = .ok (.aload_n 0, 1) := by decide +kernel
theorem dX4_pull_100 : decode cX4_pull 100 = .ok (.getfield 77, 3) := by decide +kernel
theorem dX4_pull_103 : decode cX4_pull 103 = .ok (.iload_n 2, 1) := by decide +kernel
theorem dX4_pull_104 : decode cX4_pull 104 = .ok (.isub, 1) := by decide +kernel
theorem dX4_pull_105 : decode cX4_pull 105 = .ok (.imul, 1) := by decide +kernel
theorem dX4_pull_106 : decode cX4_pull 106 = .ok (.invokestatic 80, 3) := by decide +kernel
theorem dX4_pull_109 : decode cX4_pull 109 = .ok (.aload_n 0, 1) := by decide +kernel
theorem dX4_pull_110 : decode cX4_pull 110 = .ok (.getfield 9, 3) := by decide +kernel
theorem dX4_pull_113 : decode cX4_pull 113 = .ok (.iload_n 1, 1) := by decide +kernel
theorem dX4_pull_114 : decode cX4_pull 114 = .ok (.iaload, 1) := by decide +kernel
theorem dX4_pull_115 : decode cX4_pull 115 = .ok (.ireturn, 1) := by decide +kernel
set_option maxRecDepth 20000 in
theorem ggX4_wearAll_X4_known : GoodIn wsX4_wearAll wsX4_known := goodIn_r _ [11, 2, 36, 37, 38, 39, 40, 41, 42, 43, 44, 45, 46, 47] (by decide +kernel) (by decide +kernel)
set_option maxRecDepth 20000 in
theorem gX4_wearAll_X4_known : GoodIn wsX4_wearAll (wsV RX4 86 RX4 yX4_known wsX4_known) := goodIn_app (goodIn_of _ (by decide +kernel)) ggX4_wearAll_X4_known
set_option maxRecDepth 20000 in
theorem ggX4_wearAll_X4_isLast : GoodIn wsX4_wearAll wsX4_isLast := goodIn_r _ [14, 15, 16, 10, 17] (by decide +kernel) (by decide +kernel)
set_option maxRecDepth 20000 in
theorem gX4_wearAll_X4_isLast : GoodIn wsX4_wearAll (va_wsS RX4 89 yX4_isLast wsX4_isLast) := goodIn_app (goodIn_of _ (by decide +kernel)) ggX4_wearAll_X4_isLast
set_option maxRecDepth 20000 in
theorem ggX4_wearAll_X4_push : GoodIn wsX4_wearAll wsX4_push := goodIn_r _ [21, 22, 5, 36, 37, 38, 39, 40, 41, 42, 43, 44, 45, 46, 47] (by decide +kernel) (by decide +kernel)
set_option maxRecDepth 20000 in
theorem gX4_wearAll_X4_push : GoodIn wsX4_wearAll (wsV RX4 93 RX4 yX4_push wsX4_push) := goodIn_app (goodIn_of _ (by decide +kernel)) ggX4_wearAll_X4_push
set_option maxRecDepth 20000 in
theorem ggX4_wearAll_X4_pull : GoodIn wsX4_wearAll wsX4_pull := goodIn_r _ [26, 5, 22, 27, 28, 29, 30, 4, 31, 32, 33, 10, 34, 3, 35, 36, 37, 38, 39, 40, 41, 42, 43, 44, 45, 46, 47] (by decide +kernel) (by decide +kernel)
set_option maxRecDepth 20000 in
theorem gX4_wearAll_X4_pull : GoodIn wsX4_wearAll (wsV RX4 97 RX4 yX4_pull wsX4_pull) := goodIn_app (goodIn_of _ (by decide +kernel)) ggX4_wearAll_X4_pull
theorem dX4_wearAll_0 : decode cX4_wearAll 0 = .ok (.bipush 32, 2) := by decide +kernel
theorem dX4_wearAll_2 : decode cX4_wearAll 2 = .ok (.newarray .int, 2) := by decide +kernel
theorem dX4_wearAll_4 : decode cX4_wearAll 4 = .ok (.astore_n 1, 1) := by decide +kernel
theorem dX4_wearAll_5 : decode cX4_wearAll 5 = .ok (.aload_n 0, 1) := by decide +kernel
theorem dX4_wearAll_6 : decode cX4_wearAll 6 = .ok (.invokevirtual 86, 3) := by decide +kernel
theorem dX4_wearAll_9 : decode cX4_wearAll 9 = .ok (.istore_n 2, 1) := by decide +kernel
theorem dX4_wearAll_10 : decode cX4_wearAll 10 = .ok (.iconst 0, 1) := by decide +kernel
theorem dX4_wearAll_11 : decode cX4_wearAll 11 = .ok (.istore_n 3, 1) := by decide +kernel
theorem dX4_wearAll_12 : decode cX4_wearAll 12 = .ok (.iload_n 3, 1) := by decide +kernel
theorem dX4_wearAll_13 : decode cX4_wearAll 13 = .ok (.aload_n 0, 1) := by decide +kernel
theorem dX4_wearAll_14 : decode cX4_wearAll 14 = .ok (.getfield 19, 3) := by decide +kernel
theorem dX4_wearAll_17 : decode cX4_wearAll 17 = .ok (.if_icmp .ge 37, 3) := by decide +kernel
theorem dX4_wearAll_20 : decode cX4_wearAll 20 = .ok (.aload_n 0, 1) := by decide +kernel
theorem dX4_wearAll_21 : decode cX4_wearAll 21 = .ok (.getfield 13, 3) := by decide +kernel
theorem dX4_wearAll_24 : decode cX4_wearAll 24 = .ok (.iload_n 3, 1) := by decide +kernel
theorem dX4_wearAll_25 : decode cX4_wearAll 25 = .ok (.iaload, 1) := by decide +kernel
theorem dX4_wearAll_26 : decode cX4_wearAll 26 = .ok (.invokestatic 89, 3) := by decide +kernel
theorem dX4_wearAll_29 : decode cX4_wearAll 29 = .ok (.ifCond .eq 19, 3) := by decide +kernel
theorem dX4_wearAll_32 : decode cX4_wearAll 32 = .ok (.aload_n 1, 1) := by decide +kernel
theorem dX4_wearAll_33 : decode cX4_wearAll 33 = .ok (.aload_n 0, 1) := by decide +kernel
theorem dX4_wearAll_34 : decode cX4_wearAll 34 = .ok (.getfield 13, 3) := by decide +kernel
theorem dX4_wearAll_37 : decode cX4_wearAll 37 = .ok (.iload_n 3, 1) := by decide +kernel
theorem dX4_wearAll_38 : decode cX4_wearAll 38 = .ok (.iaload, 1) := by decide +kernel
theorem dX4_wearAll_39 : decode cX4_wearAll 39 = .ok (.aload_n 0, 1) := by decide +kernel
theorem dX4_wearAll_40 : decode cX4_wearAll 40 = .ok (.getfield 9, 3) := by decide +kernel
theorem dX4_wearAll_43 : decode cX4_wearAll 43 = .ok (.iload_n 3, 1) := by decide +kernel
theorem dX4_wearAll_44 : decode cX4_wearAll 44 = .ok (.iaload, 1) := by decide +kernel
theorem dX4_wearAll_45 : decode cX4_wearAll 45 = .ok (.iconst 2, 1) := by decide +kernel
theorem dX4_wearAll_46 : decode cX4_wearAll 46 = .ok (.idiv, 1) := by decide +kernel
theorem dX4_wearAll_47 : decode cX4_wearAll 47 = .ok (.iastore, 1) := by decide +kernel
theorem dX4_wearAll_48 : decode cX4_wearAll 48 = .ok (.iinc 3 1, 3) := by decide +kernel
theorem dX4_wearAll_51 : decode cX4_wearAll 51 = .ok (.goto (-39), 3) := by decide +kernel
theorem dX4_wearAll_54 : decode cX4_wearAll 54 = .ok (.aload_n 0, 1) := by decide +kernel
theorem dX4_wearAll_55 : decode cX4_wearAll 55 = .ok (.iconst 0, 1) := by decide +kernel
theorem dX4_wearAll_56 : decode cX4_wearAll 56 = .ok (.putfield 77, 3) := by decide +kernel
theorem dX4_wearAll_59 : decode cX4_wearAll 59 = .ok (.aload_n 0, 1) := by decide +kernel
theorem dX4_wearAll_60 : decode cX4_wearAll 60 = .ok (.iconst 1, 1) := by decide +kernel
theorem dX4_wearAll_61 : decode cX4_wearAll 61 = .ok (.bipush 32, 2) := by decide +kernel
theorem dX4_wearAll_63 : decode cX4_wearAll 63 = .ok (.iconst (-1), 1) := by decide +kernel
theorem dX4_wearAll_64 : decode cX4_wearAll 64 = .ok (.invokevirtual 93, 3) := by decide +kernel
theorem dX4_wearAll_67 : decode cX4_wearAll 67 = .ok (.iconst 0, 1) := by decide +kernel
theorem dX4_wearAll_68 : decode cX4_wearAll 68 = .ok (.istore_n 3, 1) := by decide +kernel
theorem dX4_wearAll_69 : decode cX4_wearAll 69 = .ok (.iload_n 3, 1) := by decide +kernel
theorem dX4_wearAll_70 : decode cX4_wearAll 70 = .ok (.bipush 32, 2) := by decide +kernel
theorem dX4_wearAll_72 : decode cX4_wearAll 72 = .ok (.if_icmp .ge 24, 3) := by decide +kernel
theorem dX4_wearAll_75 : decode cX4_wearAll 75 = .ok (.aload_n 1, 1) := by decide +kernel
theorem dX4_wearAll_76 : decode cX4_wearAll 76 = .ok (.iload_n 3, 1) := by decide +kernel
theorem dX4_wearAll_77 : decode cX4_wearAll 77 = .ok (.iaload, 1) := by decide +kernel
theorem dX4_wearAll_78 : decode cX4_wearAll 78 = .ok (.ifCond .le 12, 3) := by decide +kernel
theorem dX4_wearAll_81 : decode cX4_wearAll 81 = .ok (.aload_n 0, 1) := by decide +kernel
theorem dX4_wearAll_82 : decode cX4_wearAll 82 = .ok (.aload_n 1, 1) := by decide +kernel
theorem dX4_wearAll_83 : decode cX4_wearAll 83 = .ok (.iload_n 3, 1) := by decide +kernel
theorem dX4_wearAll_84 : decode cX4_wearAll 84 = .ok (.iaload, 1) := by decide +kernel
theorem dX4_wearAll_85 : decode cX4_wearAll 85 = .ok (.iload_n 3, 1) := by decide +kernel
theorem dX4_wearAll_86 : decode cX4_wearAll 86 = .ok (.iconst (-1), 1) := by decide +kernel
theorem dX4_wearAll_87 : decode cX4_wearAll 87 = .ok (.invokevirtual 93, 3) := by decide +kernel
theorem dX4_wearAll_90 : decode cX4_wearAll 90 = .ok (.iinc 3 1, 3) := by decide +kernel
theorem dX4_wearAll_93 : decode cX4_wearAll 93 = .ok (.goto (-24), 3) := by decide +kernel
theorem dX4_wearAll_96 : decode cX4_wearAll 96 = .ok (.aload_n 0, 1) := by decide +kernel
theorem dX4_wearAll_97 : decode cX4_wearAll 97 = .ok (.iconst 2, 1) := by decide +kernel
theorem dX4_wearAll_98 : decode cX4_wearAll 98 = .ok (.aload_n 0, 1) := by decide +kernel
theorem dX4_wearAll_99 : decode cX4_wearAll 99 = .ok (.getfield 77, 3) := by decide +kernel
theorem dX4_wearAll_102 : decode cX4_wearAll 102 = .ok (.imul, 1) := by decide +kernel
theorem dX4_wearAll_103 : decode cX4_wearAll 103 = .ok (.iconst 1, 1) := by decide +kernel
theorem dX4_wearAll_104 : decode cX4_wearAll 104 = .ok (.isub, 1) := by decide +kernel
theorem dX4_wearAll_105 : decode cX4_wearAll 105 = .ok (.putfield 19, 3) := by decide +kernel
theorem dX4_wearAll_108 : decode cX4_wearAll 108 = .ok (.aload_n 0, 1) := by decide +kernel
theorem dX4_wearAll_109 : decode cX4_wearAll 109 = .ok (.getfield 19, 3) := by decide +kernel
theorem dX4_wearAll_112 : decode cX4_wearAll 112 = .ok (.iconst 1, 1) := by decide +kernel
theorem dX4_wearAll_113 : decode cX4_wearAll 113 = .ok (.isub, 1) := by decide +kernel
theorem dX4_wearAll_114 : decode cX4_wearAll 114 = .ok (.istore_n 3, 1) := by decide +kernel
theorem dX4_wearAll_115 : decode cX4_wearAll 115 = .ok (.iload_n 3, 1) := by decide +kernel
theorem dX4_wearAll_116 : decode cX4_wearAll 116 = .ok (.ifCond .le 38, 3) := by decide +kernel
theorem dX4_wearAll_119 : decode cX4_wearAll 119 = .ok (.aload_n 0, 1) := by decide +kernel
theorem dX4_wearAll_120 : decode cX4_wearAll 120 = .ok (.iload_n 3, 1) := by decide +kernel
theorem dX4_wearAll_121 : decode cX4_wearAll 121 = .ok (.invokevirtual 97, 3) := by decide +kernel
theorem dX4_wearAll_124 : decode cX4_wearAll 124 = .ok (.istore 4, 2) := by decide +kernel
theorem dX4_wearAll_126 : decode cX4_wearAll 126 = .ok (.aload_n 0, 1) := by decide +kernel
theorem dX4_wearAll_127 : decode cX4_wearAll 127 = .ok (.iload_n 3, 1) := by decide +kernel
theorem dX4_wearAll_128 : decode cX4_wearAll 128 = .ok (.iconst 1, 1) := by decide +kernel
theorem dX4_wearAll_129 : decode cX4_wearAll 129 = .ok (.isub, 1) := by decide +kernel
theorem dX4_wearAll_130 : decode cX4_wearAll 130 = .ok (.invokevirtual 97, 3) := by decide +kernel
theorem dX4_wearAll_133 : decode cX4_wearAll 133 = .ok (.istore 5, 2) := by decide +kernel
theorem dX4_wearAll_135 : decode cX4_wearAll 135 = .ok (.aload_n 0, 1) := by decide +kernel
theorem dX4_wearAll_136 : decode cX4_wearAll 136 = .ok (.iload 4, 2) := by decide +kernel
theorem dX4_wearAll_138 : decode cX4_wearAll 138 = .ok (.iload 5, 2) := by decide +kernel
theorem dX4_wearAll_140 : decode cX4_wearAll 140 = .ok (.iadd, 1) := by decide +kernel
theorem dX4_wearAll_141 : decode cX4_wearAll 141 = .ok (.iconst (-1), 1) := by decide +kernel
theorem dX4_wearAll_142 : decode cX4_wearAll 142 = .ok (.iload_n 3, 1) := by decide +kernel
theorem dX4_wearAll_143 : decode cX4_wearAll 143 = .ok (.iconst 1, 1) := by decide +kernel
theorem dX4_wearAll_144 : decode cX4_wearAll 144 = .ok (.isub, 1) := by decide +kernel
theorem dX4_wearAll_145 : decode cX4_wearAll 145 = .ok (.invokevirtual 93, 3) := by decide +kernel
theorem dX4_wearAll_148 : decode cX4_wearAll 148 = .ok (.iinc 3 (-2), 3) := by decide +kernel
theorem dX4_wearAll_151 : decode cX4_wearAll 151 = .ok (.goto (-36), 3) := by decide +kernel
theorem dX4_wearAll_154 : decode cX4_wearAll 154 = .ok (.aload_n 0, 1) := by decide +kernel
theorem dX4_wearAll_155 : decode cX4_wearAll 155 = .ok (.iconst 0, 1) := by decide +kernel
theorem dX4_wearAll_156 : decode cX4_wearAll 156 = .ok (.invokevirtual 97, 3) := by decide +kernel
theorem dX4_wearAll_159 : decode cX4_wearAll 159 = .ok (.pop, 1) := by decide +kernel
theorem dX4_wearAll_160 : decode cX4_wearAll 160 = .ok (.aload_n 0, 1) := by decide +kernel
theorem dX4_wearAll_161 : decode cX4_wearAll 161 = .ok (.dup, 1) := by decide +kernel
theorem dX4_wearAll_162 : decode cX4_wearAll 162 = .ok (.getfield 100, 3) := by decide +kernel
theorem dX4_wearAll_165 : decode cX4_wearAll 165 = .ok (.iconst 1, 1) := by decide +kernel
theorem dX4_wearAll_166 : decode cX4_wearAll 166 = .ok (.iadd, 1) := by decide +kernel
theorem dX4_wearAll_167 : decode cX4_wearAll 167 = .ok (.putfield 100, 3) := by decide +kernel
theorem dX4_wearAll_170 : decode cX4_wearAll 170 = .ok (.iload_n 2, 1) := by decide +kernel
theorem dX4_wearAll_171 : decode cX4_wearAll 171 = .ok (.aload_n 0, 1) := by decide +kernel
theorem dX4_wearAll_172 : decode cX4_wearAll 172 = .ok (.invokevirtual 86, 3) := by decide +kernel
theorem dX4_wearAll_175 : decode cX4_wearAll 175 = .ok (.isub, 1) := by decide +kernel
theorem dX4_wearAll_176 : decode cX4_wearAll 176 = .ok (.ireturn, 1) := by decide +kernel
theorem dX4_known_0 : decode cX4_known 0 = .ok (.aload_n 0, 1) := by decide +kernel
theorem dX4_known_1 : decode cX4_known 1 = .ok (.getfield 19, 3) := by decide +kernel
theorem dX4_known_4 : decode cX4_known 4 = .ok (.iconst 1, 1) := by decide +kernel
theorem dX4_known_5 : decode cX4_known 5 = .ok (.isub, 1) := by decide +kernel
theorem dX4_known_6 : decode cX4_known 6 = .ok (.iconst 2, 1) := by decide +kernel
theorem dX4_known_7 : decode cX4_known 7 = .ok (.idiv, 1) := by decide +kernel
theorem dX4_known_8 : decode cX4_known 8 = .ok (.ireturn, 1) := by decide +kernel
set_option maxRecDepth 20000 in
theorem ggX4_lengthCode_X4_nextLeaf : GoodIn wsX4_lengthCode wsX4_nextLeaf := goodIn_r _ [5, 6, 7, 8, 4, 9, 10, 11, 12, 13, 14, 15, 16, 17, 18, 19, 20, 21, 22, 23, 24, 25, 26, 27, 28, 29, 30, 31, 32] (by decide +kernel) (by decide +kernel)
set_option maxRecDepth 20000 in
theorem gX4_lengthCode_X4_nextLeaf : GoodIn wsX4_lengthCode (wsV RX4 103 RX4 yX4_nextLeaf wsX4_nextLeaf) := goodIn_app (goodIn_of _ (by decide +kernel)) ggX4_lengthCode_X4_nextLeaf
set_option maxRecDepth 20000 in
theorem ggX4_lengthCode_X4_placeOf : GoodIn wsX4_lengthCode wsX4_placeOf := goodIn_r _ [9, 10, 11, 21, 22, 23, 24, 25, 26, 27, 28, 29, 30, 31, 32] (by decide +kernel) (by decide +kernel)
set_option maxRecDepth 20000 in
theorem gX4_lengthCode_X4_placeOf : GoodIn wsX4_lengthCode (wsV RX4 44 RX4 yX4_placeOf wsX4_placeOf) := goodIn_app (goodIn_of _ (by decide +kernel)) ggX4_lengthCode_X4_placeOf
set_option maxRecDepth 20000 in
theorem ggX4_lengthCode_X4_lengthAt : GoodIn wsX4_lengthCode wsX4_lengthAt := goodIn_r _ [15, 16, 17, 18, 4, 19, 10, 20, 21, 22, 23, 24, 25, 26, 27, 28, 29, 30, 31, 32] (by decide +kernel) (by decide +kernel)
set_option maxRecDepth 20000 in
theorem gX4_lengthCode_X4_lengthAt : GoodIn wsX4_lengthCode (wsV RX4 47 RX4 yX4_lengthAt wsX4_lengthAt) := goodIn_app (goodIn_of _ (by decide +kernel)) ggX4_lengthCode_X4_lengthAt
theorem dX4_lengthCode_0 : decode cX4_lengthCode 0 = .ok (.iconst 0, 1) := by decide +kernel
theorem dX4_lengthCode_1 : decode cX4_lengthCode 1 = .ok (.istore_n 2, 1) := by decide +kernel
theorem dX4_lengthCode_2 : decode cX4_lengthCode 2 = .ok (.iconst 0, 1) := by decide +kernel
theorem dX4_lengthCode_3 : decode cX4_lengthCode 3 = .ok (.istore_n 3, 1) := by decide +kernel
theorem dX4_lengthCode_4 : decode cX4_lengthCode 4 = .ok (.aload_n 0, 1) := by decide +kernel
theorem dX4_lengthCode_5 : decode cX4_lengthCode 5 = .ok (.iconst (-1), 1) := by decide +kernel
theorem dX4_lengthCode_6 : decode cX4_lengthCode 6 = .ok (.iconst 0, 1) := by decide +kernel
theorem dX4_lengthCode_7 : decode cX4_lengthCode 7 = .ok (.invokevirtual 103, 3) := by decide +kernel
theorem dX4_lengthCode_10 : decode cX4_lengthCode 10 = .ok (.istore 4, 2) := by decide +kernel
theorem dX4_lengthCode_12 : decode cX4_lengthCode 12 = .ok (.iload 4, 2) := by decide +kernel
theorem dX4_lengthCode_14 : decode cX4_lengthCode 14 = .ok (.iconst (-1), 1) := by decide +kernel
theorem dX4_lengthCode_15 : decode cX4_lengthCode 15 = .ok (.if_icmp .eq 48, 3) := by decide +kernel
theorem dX4_lengthCode_18 : decode cX4_lengthCode 18 = .ok (.aload_n 0, 1) := by decide +kernel
theorem dX4_lengthCode_19 : decode cX4_lengthCode 19 = .ok (.aload_n 0, 1) := by decide +kernel
theorem dX4_lengthCode_20 : decode cX4_lengthCode 20 = .ok (.iload 4, 2) := by decide +kernel
theorem dX4_lengthCode_22 : decode cX4_lengthCode 22 = .ok (.invokevirtual 44, 3) := by decide +kernel
theorem dX4_lengthCode_25 : decode cX4_lengthCode 25 = .ok (.invokevirtual 47, 3) := by decide +kernel
theorem dX4_lengthCode_28 : decode cX4_lengthCode 28 = .ok (.istore 5, 2) := by decide +kernel
theorem dX4_lengthCode_30 : decode cX4_lengthCode 30 = .ok (.iload_n 2, 1) := by decide +kernel
theorem dX4_lengthCode_31 : decode cX4_lengthCode 31 = .ok (.iload 5, 2) := by decide +kernel
theorem dX4_lengthCode_33 : decode cX4_lengthCode 33 = .ok (.iload_n 3, 1) := by decide +kernel
theorem dX4_lengthCode_34 : decode cX4_lengthCode 34 = .ok (.isub, 1) := by decide +kernel
theorem dX4_lengthCode_35 : decode cX4_lengthCode 35 = .ok (.ishl, 1) := by decide +kernel
theorem dX4_lengthCode_36 : decode cX4_lengthCode 36 = .ok (.istore_n 2, 1) := by decide +kernel
theorem dX4_lengthCode_37 : decode cX4_lengthCode 37 = .ok (.iload 5, 2) := by decide +kernel
theorem dX4_lengthCode_39 : decode cX4_lengthCode 39 = .ok (.istore_n 3, 1) := by decide +kernel
theorem dX4_lengthCode_40 : decode cX4_lengthCode 40 = .ok (.iload 4, 2) := by decide +kernel
theorem dX4_lengthCode_42 : decode cX4_lengthCode 42 = .ok (.iload_n 1, 1) := by decide +kernel
theorem dX4_lengthCode_43 : decode cX4_lengthCode 43 = .ok (.if_icmp .ne 5, 3) := by decide +kernel
theorem dX4_lengthCode_46 : decode cX4_lengthCode 46 = .ok (.iload_n 2, 1) := by decide +kernel
theorem dX4_lengthCode_47 : decode cX4_lengthCode 47 = .ok (.ireturn, 1) := by decide +kernel
theorem dX4_lengthCode_48 : decode cX4_lengthCode 48 = .ok (.iinc 2 1, 3) := by decide +kernel
theorem dX4_lengthCode_51 : decode cX4_lengthCode 51 = .ok (.aload_n 0, 1) := by decide +kernel
theorem dX4_lengthCode_52 : decode cX4_lengthCode 52 = .ok (.iload 4, 2) := by decide +kernel
theorem dX4_lengthCode_54 : decode cX4_lengthCode 54 = .ok (.iload_n 3, 1) := by decide +kernel
theorem dX4_lengthCode_55 : decode cX4_lengthCode 55 = .ok (.invokevirtual 103, 3) := by decide +kernel
theorem dX4_lengthCode_58 : decode cX4_lengthCode 58 = .ok (.istore 4, 2) := by decide +kernel
theorem dX4_lengthCode_60 : decode cX4_lengthCode 60 = .ok (.goto (-48), 3) := by decide +kernel
theorem dX4_lengthCode_63 : decode cX4_lengthCode 63 = .ok (.iconst (-1), 1) := by decide +kernel
theorem dX4_lengthCode_64 : decode cX4_lengthCode 64 = .ok (.ireturn, 1) := by decide +kernel
set_option maxRecDepth 20000 in
theorem ggX4_nextLeaf_X4_placeOf : GoodIn wsX4_nextLeaf wsX4_placeOf := goodIn_r _ [5, 6, 7, 17, 18, 19, 20, 21, 22, 23, 24, 25, 26, 27, 28] (by decide +kernel) (by decide +kernel)
set_option maxRecDepth 20000 in
theorem gX4_nextLeaf_X4_placeOf : GoodIn wsX4_nextLeaf (wsV RX4 44 RX4 yX4_placeOf wsX4_placeOf) := goodIn_app (goodIn_of _ (by decide +kernel)) ggX4_nextLeaf_X4_placeOf
set_option maxRecDepth 20000 in
theorem ggX4_nextLeaf_X4_lengthAt : GoodIn wsX4_nextLeaf wsX4_lengthAt := goodIn_r _ [11, 12, 13, 14, 4, 15, 6, 16, 17, 18, 19, 20, 21, 22, 23, 24, 25, 26, 27, 28] (by decide +kernel) (by decide +kernel)
set_option maxRecDepth 20000 in
theorem gX4_nextLeaf_X4_lengthAt : GoodIn wsX4_nextLeaf (wsV RX4 47 RX4 yX4_lengthAt wsX4_lengthAt) := goodIn_app (goodIn_of _ (by decide +kernel)) ggX4_nextLeaf_X4_lengthAt
theorem dX4_nextLeaf_0 : decode cX4_nextLeaf 0 = .ok (.iconst (-1), 1) := by decide +kernel
theorem dX4_nextLeaf_1 : decode cX4_nextLeaf 1 = .ok (.istore_n 3, 1) := by decide +kernel
theorem dX4_nextLeaf_2 : decode cX4_nextLeaf 2 = .ok (.iconst 0, 1) := by decide +kernel
theorem dX4_nextLeaf_3 : decode cX4_nextLeaf 3 = .ok (.istore 4, 2) := by decide +kernel
theorem dX4_nextLeaf_5 : decode cX4_nextLeaf 5 = .ok (.iconst 0, 1) := by decide +kernel
theorem dX4_nextLeaf_6 : decode cX4_nextLeaf 6 = .ok (.istore 5, 2) := by decide +kernel
theorem dX4_nextLeaf_8 : decode cX4_nextLeaf 8 = .ok (.iload 5, 2) := by decide +kernel
theorem dX4_nextLeaf_10 : decode cX4_nextLeaf 10 = .ok (.bipush 32, 2) := by decide +kernel
theorem dX4_nextLeaf_12 : decode cX4_nextLeaf 12 = .ok (.if_icmp .gt 91, 3) := by decide +kernel
theorem dX4_nextLeaf_15 : decode cX4_nextLeaf 15 = .ok (.aload_n 0, 1) := by decide +kernel
theorem dX4_nextLeaf_16 : decode cX4_nextLeaf 16 = .ok (.iload 5, 2) := by decide +kernel
theorem dX4_nextLeaf_18 : decode cX4_nextLeaf 18 = .ok (.invokevirtual 44, 3) := by decide +kernel
theorem dX4_nextLeaf_21 : decode cX4_nextLeaf 21 = .ok (.istore 6, 2) := by decide +kernel
theorem dX4_nextLeaf_23 : decode cX4_nextLeaf 23 = .ok (.iload 6, 2) := by decide +kernel
theorem dX4_nextLeaf_25 : decode cX4_nextLeaf 25 = .ok (.iconst (-1), 1) := by decide +kernel
theorem dX4_nextLeaf_26 : decode cX4_nextLeaf 26 = .ok (.if_icmp .ne 6, 3) := by decide +kernel
theorem dX4_nextLeaf_29 : decode cX4_nextLeaf 29 = .ok (.goto 68, 3) := by decide +kernel
theorem dX4_nextLeaf_32 : decode cX4_nextLeaf 32 = .ok (.aload_n 0, 1) := by decide +kernel
theorem dX4_nextLeaf_33 : decode cX4_nextLeaf 33 = .ok (.iload 6, 2) := by decide +kernel
theorem dX4_nextLeaf_35 : decode cX4_nextLeaf 35 = .ok (.invokevirtual 47, 3) := by decide +kernel
theorem dX4_nextLeaf_38 : decode cX4_nextLeaf 38 = .ok (.istore 7, 2) := by decide +kernel
theorem dX4_nextLeaf_40 : decode cX4_nextLeaf 40 = .ok (.iload_n 1, 1) := by decide +kernel
theorem dX4_nextLeaf_41 : decode cX4_nextLeaf 41 = .ok (.iconst (-1), 1) := by decide +kernel
theorem dX4_nextLeaf_42 : decode cX4_nextLeaf 42 = .ok (.if_icmp .eq 21, 3) := by decide +kernel
theorem dX4_nextLeaf_45 : decode cX4_nextLeaf 45 = .ok (.iload 7, 2) := by decide +kernel
theorem dX4_nextLeaf_47 : decode cX4_nextLeaf 47 = .ok (.iload_n 2, 1) := by decide +kernel
theorem dX4_nextLeaf_48 : decode cX4_nextLeaf 48 = .ok (.if_icmp .gt 15, 3) := by decide +kernel
theorem dX4_nextLeaf_51 : decode cX4_nextLeaf 51 = .ok (.iload 7, 2) := by decide +kernel
theorem dX4_nextLeaf_53 : decode cX4_nextLeaf 53 = .ok (.iload_n 2, 1) := by decide +kernel
theorem dX4_nextLeaf_54 : decode cX4_nextLeaf 54 = .ok (.if_icmp .ne 13, 3) := by decide +kernel
theorem dX4_nextLeaf_57 : decode cX4_nextLeaf 57 = .ok (.iload 5, 2) := by decide +kernel
theorem dX4_nextLeaf_59 : decode cX4_nextLeaf 59 = .ok (.iload_n 1, 1) := by decide +kernel
theorem dX4_nextLeaf_60 : decode cX4_nextLeaf 60 = .ok (.if_icmp .le 7, 3) := by decide +kernel
theorem dX4_nextLeaf_63 : decode cX4_nextLeaf 63 = .ok (.iconst 1, 1) := by decide +kernel
theorem dX4_nextLeaf_64 : decode cX4_nextLeaf 64 = .ok (.goto 4, 3) := by decide +kernel
theorem dX4_nextLeaf_67 : decode cX4_nextLeaf 67 = .ok (.iconst 0, 1) := by decide +kernel
theorem dX4_nextLeaf_68 : decode cX4_nextLeaf 68 = .ok (.istore 8, 2) := by decide +kernel
theorem dX4_nextLeaf_70 : decode cX4_nextLeaf 70 = .ok (.iload 8, 2) := by decide +kernel
theorem dX4_nextLeaf_72 : decode cX4_nextLeaf 72 = .ok (.ifCond .eq 25, 3) := by decide +kernel
theorem dX4_nextLeaf_75 : decode cX4_nextLeaf 75 = .ok (.iload_n 3, 1) := by decide +kernel
theorem dX4_nextLeaf_76 : decode cX4_nextLeaf 76 = .ok (.iconst (-1), 1) := by decide +kernel
theorem dX4_nextLeaf_77 : decode cX4_nextLeaf 77 = .ok (.if_icmp .eq 13, 3) := by decide +kernel
theorem dX4_nextLeaf_80 : decode cX4_nextLeaf 80 = .ok (.iload 7, 2) := by decide +kernel
theorem dX4_nextLeaf_82 : decode cX4_nextLeaf 82 = .ok (.iload 4, 2) := by decide +kernel
theorem dX4_nextLeaf_84 : decode cX4_nextLeaf 84 = .ok (.if_icmp .lt 6, 3) := by decide +kernel
theorem dX4_nextLeaf_87 : decode cX4_nextLeaf 87 = .ok (.goto 10, 3) := by decide +kernel
theorem dX4_nextLeaf_90 : decode cX4_nextLeaf 90 = .ok (.iload 5, 2) := by decide +kernel
theorem dX4_nextLeaf_92 : decode cX4_nextLeaf 92 = .ok (.istore_n 3, 1) := by decide +kernel
theorem dX4_nextLeaf_93 : decode cX4_nextLeaf 93 = .ok (.iload 7, 2) := by decide +kernel
theorem dX4_nextLeaf_95 : decode cX4_nextLeaf 95 = .ok (.istore 4, 2) := by decide +kernel
theorem dX4_nextLeaf_97 : decode cX4_nextLeaf 97 = .ok (.iinc 5 1, 3) := by decide +kernel
theorem dX4_nextLeaf_100 : decode cX4_nextLeaf 100 = .ok (.goto (-92), 3) := by decide +kernel
theorem dX4_nextLeaf_103 : decode cX4_nextLeaf 103 = .ok (.iload_n 3, 1) := by decide +kernel
theorem dX4_nextLeaf_104 : decode cX4_nextLeaf 104 = .ok (.ireturn, 1) := by decide +kernel
set_option maxRecDepth 20000 in
theorem ggX4_use_X4_isLast : GoodIn wsX4_use wsX4_isLast := goodIn_r _ [5, 6, 7, 4, 8] (by decide +kernel) (by decide +kernel)
set_option maxRecDepth 20000 in
theorem gX4_use_X4_isLast : GoodIn wsX4_use (va_wsS RX4 89 yX4_isLast wsX4_isLast) := goodIn_app (goodIn_of _ (by decide +kernel)) ggX4_use_X4_isLast
set_option maxRecDepth 20000 in
theorem ggX4_use_X4_useOne : GoodIn wsX4_use wsX4_useOne := goodIn_r _ [12, 13, 14, 15, 16, 17, 18, 19, 4, 20, 21, 22, 23, 24, 25, 26, 27, 28, 29, 30, 31, 32, 33, 34, 35, 36, 37, 38, 39, 40, 41, 42, 43, 44, 45, 46, 47, 48, 49, 50, 51, 52, 53, 54, 55, 56, 57, 58, 59, 60, 61, 62, 63, 2, 3, 5, 6, 7, 8, 64, 65, 66, 67, 68, 69, 70, 71, 72, 73, 74, 75, 76, 81, 82, 83, 84, 85, 86, 87, 88, 89, 90, 91, 92] (by decide +kernel) (by decide +kernel)
set_option maxRecDepth 20000 in
theorem gX4_use_X4_useOne : GoodIn wsX4_use (wsV RX4 107 RX4 yX4_useOne wsX4_useOne) := goodIn_app (goodIn_of _ (by decide +kernel)) ggX4_use_X4_useOne
set_option maxRecDepth 20000 in
theorem ggX4_use_X4_no : GoodIn wsX4_use wsX4_no := goodIn_r _ [80, 1, 81, 82, 83, 84, 85, 86, 87, 88, 89, 90, 91, 92] (by decide +kernel) (by decide +kernel)
set_option maxRecDepth 20000 in
theorem gX4_use_X4_no : GoodIn wsX4_use (wsV RX4 110 RX4 yX4_no wsX4_no) := goodIn_app (goodIn_of _ (by decide +kernel)) ggX4_use_X4_no
theorem dX4_use_0 : decode cX4_use 0 = .ok (.aload_n 0, 1) := by decide +kernel
theorem dX4_use_1 : decode cX4_use 1 = .ok (.iconst 0, 1) := by decide +kernel
theorem dX4_use_2 : decode cX4_use 2 = .ok (.putfield 33, 3) := by decide +kernel
theorem dX4_use_5 : decode cX4_use 5 = .ok (.iload_n 1, 1) := by decide +kernel
theorem dX4_use_6 : decode cX4_use 6 = .ok (.invokestatic 89, 3) := by decide +kernel
theorem dX4_use_9 : decode cX4_use 9 = .ok (.ifCond .eq 11, 3) := by decide +kernel
theorem dX4_use_12 : decode cX4_use 12 = .ok (.aload_n 0, 1) := by decide +kernel
theorem dX4_use_13 : decode cX4_use 13 = .ok (.iload_n 1, 1) := by decide +kernel
theorem dX4_use_14 : decode cX4_use 14 = .ok (.invokevirtual 107, 3) := by decide +kernel
theorem dX4_use_17 : decode cX4_use 17 = .ok (.goto 8, 3) := by decide +kernel
theorem dX4_use_20 : decode cX4_use 20 = .ok (.aload_n 0, 1) := by decide +kernel
theorem dX4_use_21 : decode cX4_use 21 = .ok (.iconst 1, 1) := by decide +kernel
theorem dX4_use_22 : decode cX4_use 22 = .ok (.invokevirtual 110, 3) := by decide +kernel
theorem dX4_use_25 : decode cX4_use 25 = .ok (.ireturn, 1) := by decide +kernel
set_option maxRecDepth 20000 in
theorem ggX4_row_X4_useOne : GoodIn wsX4_row wsX4_useOne := goodIn_r _ [5, 6, 7, 8, 9, 10, 11, 12, 4, 13, 14, 15, 16, 17, 18, 19, 20, 21, 22, 23, 24, 25, 26, 27, 28, 29, 30, 31, 32, 33, 34, 35, 36, 37, 38, 39, 40, 41, 42, 43, 44, 45, 46, 47, 48, 49, 50, 51, 52, 53, 54, 55, 56, 57, 58, 59, 60, 61, 62, 63, 64, 65, 66, 67, 68, 69, 70, 71, 72, 73, 74, 75, 76, 77, 78, 79, 80, 81, 82, 83, 84, 85, 86, 87] (by decide +kernel) (by decide +kernel)
set_option maxRecDepth 20000 in
theorem gX4_row_X4_useOne : GoodIn wsX4_row (wsV RX4 107 RX4 yX4_useOne wsX4_useOne) := goodIn_app (goodIn_of _ (by decide +kernel)) ggX4_row_X4_useOne
theorem dX4_row_0 : decode cX4_row 0 = .ok (.iconst 0, 1) := by decide +kernel
theorem dX4_row_1 : decode cX4_row 1 = .ok (.istore 4, 2) := by decide +kernel
theorem dX4_row_3 : decode cX4_row 3 = .ok (.iconst 0, 1) := by decide +kernel
theorem dX4_row_4 : decode cX4_row 4 = .ok (.istore 5, 2) := by decide +kernel
theorem dX4_row_6 : decode cX4_row 6 = .ok (.iload 5, 2) := by decide +kernel
theorem dX4_row_8 : decode cX4_row 8 = .ok (.iload_n 3, 1) := by decide +kernel
theorem dX4_row_9 : decode cX4_row 9 = .ok (.if_icmp .ge 27, 3) := by decide +kernel
theorem dX4_row_12 : decode cX4_row 12 = .ok (.iload 4, 2) := by decide +kernel
theorem dX4_row_14 : decode cX4_row 14 = .ok (.aload_n 0, 1) := by decide +kernel
theorem dX4_row_15 : decode cX4_row 15 = .ok (.iload_n 1, 1) := by decide +kernel
theorem dX4_row_16 : decode cX4_row 16 = .ok (.iload_n 2, 1) := by decide +kernel
theorem dX4_row_17 : decode cX4_row 17 = .ok (.iload 5, 2) := by decide +kernel
theorem dX4_row_19 : decode cX4_row 19 = .ok (.imul, 1) := by decide +kernel
theorem dX4_row_20 : decode cX4_row 20 = .ok (.iadd, 1) := by decide +kernel
theorem dX4_row_21 : decode cX4_row 21 = .ok (.bipush 32, 2) := by decide +kernel
theorem dX4_row_23 : decode cX4_row 23 = .ok (.irem, 1) := by decide +kernel
theorem dX4_row_24 : decode cX4_row 24 = .ok (.invokevirtual 107, 3) := by decide +kernel
theorem dX4_row_27 : decode cX4_row 27 = .ok (.iadd, 1) := by decide +kernel
theorem dX4_row_28 : decode cX4_row 28 = .ok (.istore 4, 2) := by decide +kernel
theorem dX4_row_30 : decode cX4_row 30 = .ok (.iinc 5 1, 3) := by decide +kernel
theorem dX4_row_33 : decode cX4_row 33 = .ok (.goto (-27), 3) := by decide +kernel
theorem dX4_row_36 : decode cX4_row 36 = .ok (.iload 4, 2) := by decide +kernel
theorem dX4_row_38 : decode cX4_row 38 = .ok (.ireturn, 1) := by decide +kernel
set_option maxRecDepth 20000 in
theorem ggX4_isRow_X4_isLast : GoodIn wsX4_isRow wsX4_isLast := goodIn_r _ [5, 6, 7, 4, 8] (by decide +kernel) (by decide +kernel)
set_option maxRecDepth 20000 in
theorem gX4_isRow_X4_isLast : GoodIn wsX4_isRow (va_wsS RX4 89 yX4_isLast wsX4_isLast) := goodIn_app (goodIn_of _ (by decide +kernel)) ggX4_isRow_X4_isLast
set_option maxRecDepth 20000 in
theorem ggX4_isRow_X4_isIn : GoodIn wsX4_isRow wsX4_isIn := goodIn_r _ [8] (by decide +kernel) (by decide +kernel)
set_option maxRecDepth 20000 in
theorem gX4_isRow_X4_isIn : GoodIn wsX4_isRow (va_wsS RX4 36 yX4_isIn wsX4_isIn) := goodIn_app (goodIn_of _ (by decide +kernel)) ggX4_isRow_X4_isIn
theorem dX4_isRow_0 : decode cX4_isRow 0 = .ok (.aload_n 0, 1) := by decide +kernel
theorem dX4_isRow_1 : decode cX4_isRow 1 = .ok (.iload_n 1, 1) := by decide +kernel
theorem dX4_isRow_2 : decode cX4_isRow 2 = .ok (.invokestatic 89, 3) := by decide +kernel
theorem dX4_isRow_5 : decode cX4_isRow 5 = .ok (.ifCond .ne 7, 3) := by decide +kernel
theorem dX4_isRow_8 : decode cX4_isRow 8 = .ok (.iconst 1, 1) := by decide +kernel
theorem dX4_isRow_9 : decode cX4_isRow 9 = .ok (.goto 25, 3) := by decide +kernel
theorem dX4_isRow_12 : decode cX4_isRow 12 = .ok (.iload_n 2, 1) := by decide +kernel
theorem dX4_isRow_13 : decode cX4_isRow 13 = .ok (.invokestatic 89, 3) := by decide +kernel
theorem dX4_isRow_16 : decode cX4_isRow 16 = .ok (.ifCond .eq 13, 3) := by decide +kernel
theorem dX4_isRow_19 : decode cX4_isRow 19 = .ok (.iload_n 3, 1) := by decide +kernel
theorem dX4_isRow_20 : decode cX4_isRow 20 = .ok (.iconst 1, 1) := by decide +kernel
theorem dX4_isRow_21 : decode cX4_isRow 21 = .ok (.bipush 40, 2) := by decide +kernel
theorem dX4_isRow_23 : decode cX4_isRow 23 = .ok (.invokestatic 36, 3) := by decide +kernel
theorem dX4_isRow_26 : decode cX4_isRow 26 = .ok (.ifCond .ne 7, 3) := by decide +kernel
theorem dX4_isRow_29 : decode cX4_isRow 29 = .ok (.iconst 2, 1) := by decide +kernel
theorem dX4_isRow_30 : decode cX4_isRow 30 = .ok (.goto 4, 3) := by decide +kernel
theorem dX4_isRow_33 : decode cX4_isRow 33 = .ok (.iconst 0, 1) := by decide +kernel
theorem dX4_isRow_34 : decode cX4_isRow 34 = .ok (.putfield 33, 3) := by decide +kernel
theorem dX4_isRow_37 : decode cX4_isRow 37 = .ok (.aload_n 0, 1) := by decide +kernel
theorem dX4_isRow_38 : decode cX4_isRow 38 = .ok (.getfield 33, 3) := by decide +kernel
theorem dX4_isRow_41 : decode cX4_isRow 41 = .ok (.ifCond .ne 7, 3) := by decide +kernel
theorem dX4_isRow_44 : decode cX4_isRow 44 = .ok (.iconst 1, 1) := by decide +kernel
theorem dX4_isRow_45 : decode cX4_isRow 45 = .ok (.goto 4, 3) := by decide +kernel
theorem dX4_isRow_48 : decode cX4_isRow 48 = .ok (.iconst 0, 1) := by decide +kernel
theorem dX4_isRow_49 : decode cX4_isRow 49 = .ok (.ireturn, 1) := by decide +kernel
set_option maxRecDepth 20000 in
theorem ggX4_useAll_X4_isRow : GoodIn wsX4_useAll wsX4_isRow := goodIn_r _ [5, 6, 7, 8, 4, 9, 10, 11, 12, 85, 86, 87, 88, 89, 90, 91, 92, 93, 94, 95, 96] (by decide +kernel) (by decide +kernel)
set_option maxRecDepth 20000 in
theorem gX4_useAll_X4_isRow : GoodIn wsX4_useAll (wsV RX4 113 RX4 yX4_isRow wsX4_isRow) := goodIn_app (goodIn_of _ (by decide +kernel)) ggX4_useAll_X4_isRow
set_option maxRecDepth 20000 in
theorem ggX4_useAll_X4_row : GoodIn wsX4_useAll wsX4_row := goodIn_r _ [16, 17, 18, 19, 4, 20, 21, 22, 23, 24, 25, 26, 27, 28, 29, 30, 31, 32, 33, 34, 35, 36, 37, 38, 39, 40, 41, 42, 43, 44, 45, 46, 47, 48, 49, 50, 51, 52, 53, 54, 55, 56, 57, 58, 59, 60, 61, 62, 63, 64, 65, 66, 67, 68, 69, 70, 71, 7, 8, 9, 10, 11, 12, 72, 73, 74, 75, 76, 77, 78, 79, 80, 81, 82, 83, 84, 85, 86, 87, 88, 89, 90, 91, 92, 93, 94, 95, 96] (by decide +kernel) (by decide +kernel)
set_option maxRecDepth 20000 in
theorem gX4_useAll_X4_row : GoodIn wsX4_useAll (wsV RX4 116 RX4 yX4_row wsX4_row) := goodIn_app (goodIn_of _ (by decide +kernel)) ggX4_useAll_X4_row
theorem dX4_useAll_0 : decode cX4_useAll 0 = .ok (.aload_n 0, 1) := by decide +kernel
theorem dX4_useAll_1 : decode cX4_useAll 1 = .ok (.iload_n 1, 1) := by decide +kernel
theorem dX4_useAll_2 : decode cX4_useAll 2 = .ok (.iload_n 2, 1) := by decide +kernel
theorem dX4_useAll_3 : decode cX4_useAll 3 = .ok (.iload_n 3, 1) := by decide +kernel
theorem dX4_useAll_4 : decode cX4_useAll 4 = .ok (.invokevirtual 113, 3) := by decide +kernel
theorem dX4_useAll_7 : decode cX4_useAll 7 = .ok (.ifCond .eq 13, 3) := by decide +kernel
theorem dX4_useAll_10 : decode cX4_useAll 10 = .ok (.aload_n 0, 1) := by decide +kernel
theorem dX4_useAll_11 : decode cX4_useAll 11 = .ok (.iload_n 1, 1) := by decide +kernel
theorem dX4_useAll_12 : decode cX4_useAll 12 = .ok (.iload_n 2, 1) := by decide +kernel
theorem dX4_useAll_13 : decode cX4_useAll 13 = .ok (.iload_n 3, 1) := by decide +kernel
theorem dX4_useAll_14 : decode cX4_useAll 14 = .ok (.invokevirtual 116, 3) := by decide +kernel
theorem dX4_useAll_17 : decode cX4_useAll 17 = .ok (.goto 4, 3) := by decide +kernel
theorem dX4_useAll_20 : decode cX4_useAll 20 = .ok (.iconst 0, 1) := by decide +kernel
theorem dX4_useAll_21 : decode cX4_useAll 21 = .ok (.ireturn, 1) := by decide +kernel
set_option maxRecDepth 20000 in
theorem ggX4_setLimit_X4_isIn : GoodIn wsX4_setLimit wsX4_isIn := goodIn_r _ [6] (by decide +kernel) (by decide +kernel)
set_option maxRecDepth 20000 in
theorem gX4_setLimit_X4_isIn : GoodIn wsX4_setLimit (va_wsS RX4 36 yX4_isIn wsX4_isIn) := goodIn_app (goodIn_of _ (by decide +kernel)) ggX4_setLimit_X4_isIn
set_option maxRecDepth 20000 in
theorem ggX4_setLimit_X4_no : GoodIn wsX4_setLimit wsX4_no := goodIn_r _ [10, 1, 11, 12, 13, 14, 15, 16, 17, 18, 19, 20, 21, 22] (by decide +kernel) (by decide +kernel)
set_option maxRecDepth 20000 in
theorem gX4_setLimit_X4_no : GoodIn wsX4_setLimit (wsV RX4 110 RX4 yX4_no wsX4_no) := goodIn_app (goodIn_of _ (by decide +kernel)) ggX4_setLimit_X4_no
theorem dX4_setLimit_0 : decode cX4_setLimit 0 = .ok (.aload_n 0, 1) := by decide +kernel
theorem dX4_setLimit_1 : decode cX4_setLimit 1 = .ok (.iconst 0, 1) := by decide +kernel
theorem dX4_setLimit_2 : decode cX4_setLimit 2 = .ok (.putfield 33, 3) := by decide +kernel
theorem dX4_setLimit_5 : decode cX4_setLimit 5 = .ok (.iload_n 1, 1) := by decide +kernel
theorem dX4_setLimit_6 : decode cX4_setLimit 6 = .ok (.iconst 4, 1) := by decide +kernel
theorem dX4_setLimit_7 : decode cX4_setLimit 7 = .ok (.sipush 400, 3) := by decide +kernel
theorem dX4_setLimit_10 : decode cX4_setLimit 10 = .ok (.invokestatic 36, 3) := by decide +kernel
theorem dX4_setLimit_13 : decode cX4_setLimit 13 = .ok (.ifCond .ne 9, 3) := by decide +kernel
theorem dX4_setLimit_16 : decode cX4_setLimit 16 = .ok (.aload_n 0, 1) := by decide +kernel
theorem dX4_setLimit_17 : decode cX4_setLimit 17 = .ok (.iconst 1, 1) := by decide +kernel
theorem dX4_setLimit_18 : decode cX4_setLimit 18 = .ok (.invokevirtual 110, 3) := by decide +kernel
theorem dX4_setLimit_21 : decode cX4_setLimit 21 = .ok (.ireturn, 1) := by decide +kernel
theorem dX4_setLimit_22 : decode cX4_setLimit 22 = .ok (.aload_n 0, 1) := by decide +kernel
theorem dX4_setLimit_23 : decode cX4_setLimit 23 = .ok (.getfield 23, 3) := by decide +kernel
theorem dX4_setLimit_26 : decode cX4_setLimit 26 = .ok (.istore_n 2, 1) := by decide +kernel
theorem dX4_setLimit_27 : decode cX4_setLimit 27 = .ok (.aload_n 0, 1) := by decide +kernel
theorem dX4_setLimit_28 : decode cX4_setLimit 28 = .ok (.iload_n 1, 1) := by decide +kernel
theorem dX4_setLimit_29 : decode cX4_setLimit 29 = .ok (.putfield 23, 3) := by decide +kernel
theorem dX4_setLimit_32 : decode cX4_setLimit 32 = .ok (.iload_n 2, 1) := by decide +kernel
theorem dX4_setLimit_33 : decode cX4_setLimit 33 = .ok (.ireturn, 1) := by decide +kernel
set_option maxRecDepth 20000 in
theorem ggX4_wear_X4_known : GoodIn wsX4_wear wsX4_known := goodIn_r _ [6, 7, 45, 46, 47, 48, 49, 50, 51, 52, 53, 54, 55, 56] (by decide +kernel) (by decide +kernel)
set_option maxRecDepth 20000 in
theorem gX4_wear_X4_known : GoodIn wsX4_wear (wsV RX4 86 RX4 yX4_known wsX4_known) := goodIn_app (goodIn_of _ (by decide +kernel)) ggX4_wear_X4_known
set_option maxRecDepth 20000 in
theorem ggX4_wear_X4_no : GoodIn wsX4_wear wsX4_no := goodIn_r _ [11, 1, 45, 46, 47, 48, 49, 50, 51, 52, 53, 54, 55, 56] (by decide +kernel) (by decide +kernel)
set_option maxRecDepth 20000 in
theorem gX4_wear_X4_no : GoodIn wsX4_wear (wsV RX4 110 RX4 yX4_no wsX4_no) := goodIn_app (goodIn_of _ (by decide +kernel)) ggX4_wear_X4_no
set_option maxRecDepth 20000 in
theorem ggX4_wear_X4_wearAll : GoodIn wsX4_wear wsX4_wearAll := goodIn_r _ [15, 16, 7, 17, 18, 19, 20, 2, 3, 4, 5, 6, 21, 22, 23, 24, 25, 26, 27, 28, 29, 30, 31, 32, 33, 34, 35, 36, 37, 38, 39, 40, 41, 42, 43, 44, 45, 46, 47, 48, 49, 50, 51, 52, 53, 54, 55, 56] (by decide +kernel) (by decide +kernel)
set_option maxRecDepth 20000 in
theorem gX4_wear_X4_wearAll : GoodIn wsX4_wear (wsV RX4 73 RX4 yX4_wearAll wsX4_wearAll) := goodIn_app (goodIn_of _ (by decide +kernel)) ggX4_wear_X4_wearAll
theorem dX4_wear_0 : decode cX4_wear 0 = .ok (.aload_n 0, 1) := by decide +kernel
theorem dX4_wear_1 : decode cX4_wear 1 = .ok (.iconst 0, 1) := by decide +kernel
theorem dX4_wear_2 : decode cX4_wear 2 = .ok (.putfield 33, 3) := by decide +kernel
theorem dX4_wear_5 : decode cX4_wear 5 = .ok (.aload_n 0, 1) := by decide +kernel
theorem dX4_wear_6 : decode cX4_wear 6 = .ok (.invokevirtual 86, 3) := by decide +kernel
theorem dX4_wear_9 : decode cX4_wear 9 = .ok (.ifCond .ne 11, 3) := by decide +kernel
theorem dX4_wear_12 : decode cX4_wear 12 = .ok (.aload_n 0, 1) := by decide +kernel
theorem dX4_wear_13 : decode cX4_wear 13 = .ok (.iconst 1, 1) := by decide +kernel
theorem dX4_wear_14 : decode cX4_wear 14 = .ok (.invokevirtual 110, 3) := by decide +kernel
theorem dX4_wear_17 : decode cX4_wear 17 = .ok (.goto 7, 3) := by decide +kernel
theorem dX4_wear_20 : decode cX4_wear 20 = .ok (.aload_n 0, 1) := by decide +kernel
theorem dX4_wear_21 : decode cX4_wear 21 = .ok (.invokevirtual 73, 3) := by decide +kernel
theorem dX4_wear_24 : decode cX4_wear 24 = .ok (.ireturn, 1) := by decide +kernel
set_option maxRecDepth 20000 in
theorem ggX4_leafTold_X4_lengthAt : GoodIn wsX4_leafTold wsX4_lengthAt := goodIn_r _ [6, 7, 8, 9, 5, 10, 11, 12, 30, 31, 32, 33, 34, 35, 36, 37, 38, 39, 40, 41] (by decide +kernel) (by decide +kernel)
set_option maxRecDepth 20000 in
theorem gX4_leafTold_X4_lengthAt : GoodIn wsX4_leafTold (wsV RX4 47 RX4 yX4_lengthAt wsX4_lengthAt) := goodIn_app (goodIn_of _ (by decide +kernel)) ggX4_leafTold_X4_lengthAt
set_option maxRecDepth 20000 in
theorem ggX4_leafTold_X4_codeAt : GoodIn wsX4_leafTold wsX4_codeAt := goodIn_r _ [16, 12, 7, 8, 9, 5, 10, 11, 30, 31, 32, 33, 34, 35, 36, 37, 38, 39, 40, 41] (by decide +kernel) (by decide +kernel)
set_option maxRecDepth 20000 in
theorem gX4_leafTold_X4_codeAt : GoodIn wsX4_leafTold (wsV RX4 120 RX4 yX4_codeAt wsX4_codeAt) := goodIn_app (goodIn_of _ (by decide +kernel)) ggX4_leafTold_X4_codeAt
set_option maxRecDepth 20000 in
theorem ggX4_leafTold_X4_lengthCode : GoodIn wsX4_leafTold wsX4_lengthCode := goodIn_r _ [20, 21, 22, 23, 5, 24, 25, 26, 27, 28, 11, 29, 2, 3, 4, 6, 7, 8, 9, 10, 12, 30, 31, 32, 33, 34, 35, 36, 37, 38, 39, 40, 41] (by decide +kernel) (by decide +kernel)
set_option maxRecDepth 20000 in
theorem gX4_leafTold_X4_lengthCode : GoodIn wsX4_leafTold (wsV RX4 123 RX4 yX4_lengthCode wsX4_lengthCode) := goodIn_app (goodIn_of _ (by decide +kernel)) ggX4_leafTold_X4_lengthCode
theorem dX4_leafTold_0 : decode cX4_leafTold 0 = .ok (.iload_n 3, 1) := by decide +kernel
theorem dX4_leafTold_1 : decode cX4_leafTold 1 = .ok (.tableswitch 56 0 3 #[31, 38, 44, 50], 31) := by decide +kernel
theorem dX4_leafTold_32 : decode cX4_leafTold 32 = .ok (.aload_n 0, 1) := by decide +kernel
theorem dX4_leafTold_33 : decode cX4_leafTold 33 = .ok (.getfield 9, 3) := by decide +kernel
theorem dX4_leafTold_36 : decode cX4_leafTold 36 = .ok (.iload_n 2, 1) := by decide +kernel
theorem dX4_leafTold_37 : decode cX4_leafTold 37 = .ok (.iaload, 1) := by decide +kernel
theorem dX4_leafTold_38 : decode cX4_leafTold 38 = .ok (.ireturn, 1) := by decide +kernel
theorem dX4_leafTold_39 : decode cX4_leafTold 39 = .ok (.aload_n 0, 1) := by decide +kernel
theorem dX4_leafTold_40 : decode cX4_leafTold 40 = .ok (.iload_n 2, 1) := by decide +kernel
theorem dX4_leafTold_41 : decode cX4_leafTold 41 = .ok (.invokevirtual 47, 3) := by decide +kernel
theorem dX4_leafTold_44 : decode cX4_leafTold 44 = .ok (.ireturn, 1) := by decide +kernel
theorem dX4_leafTold_45 : decode cX4_leafTold 45 = .ok (.aload_n 0, 1) := by decide +kernel
theorem dX4_leafTold_46 : decode cX4_leafTold 46 = .ok (.iload_n 2, 1) := by decide +kernel
theorem dX4_leafTold_47 : decode cX4_leafTold 47 = .ok (.invokevirtual 120, 3) := by decide +kernel
theorem dX4_leafTold_50 : decode cX4_leafTold 50 = .ok (.ireturn, 1) := by decide +kernel
theorem dX4_leafTold_51 : decode cX4_leafTold 51 = .ok (.aload_n 0, 1) := by decide +kernel
theorem dX4_leafTold_52 : decode cX4_leafTold 52 = .ok (.iload_n 1, 1) := by decide +kernel
theorem dX4_leafTold_53 : decode cX4_leafTold 53 = .ok (.invokevirtual 123, 3) := by decide +kernel
theorem dX4_leafTold_56 : decode cX4_leafTold 56 = .ok (.ireturn, 1) := by decide +kernel
theorem dX4_leafTold_57 : decode cX4_leafTold 57 = .ok (.iload_n 2, 1) := by decide +kernel
theorem dX4_leafTold_58 : decode cX4_leafTold 58 = .ok (.ireturn, 1) := by decide +kernel
set_option maxRecDepth 20000 in
theorem ggX4_lastTold_X4_bitsOf : GoodIn wsX4_lastTold wsX4_bitsOf := goodIn_r _ [5, 6, 7, 8, 4, 9, 10, 11, 12, 13, 14, 15, 16, 17, 18, 19, 20, 38, 39, 40, 41, 42, 43, 44, 45, 46, 47, 48, 49] (by decide +kernel) (by decide +kernel)
set_option maxRecDepth 20000 in
theorem gX4_lastTold_X4_bitsOf : GoodIn wsX4_lastTold (wsV RX4 53 RX4 yX4_bitsOf wsX4_bitsOf) := goodIn_app (goodIn_of _ (by decide +kernel)) ggX4_lastTold_X4_bitsOf
set_option maxRecDepth 20000 in
theorem ggX4_lastTold_X4_placeOf : GoodIn wsX4_lastTold wsX4_placeOf := goodIn_r _ [9, 10, 11, 38, 39, 40, 41, 42, 43, 44, 45, 46, 47, 48, 49] (by decide +kernel) (by decide +kernel)
set_option maxRecDepth 20000 in
theorem gX4_lastTold_X4_placeOf : GoodIn wsX4_lastTold (wsV RX4 44 RX4 yX4_placeOf wsX4_placeOf) := goodIn_app (goodIn_of _ (by decide +kernel)) ggX4_lastTold_X4_placeOf
set_option maxRecDepth 20000 in
theorem ggX4_lastTold_X4_leafTold : GoodIn wsX4_lastTold wsX4_leafTold := goodIn_r _ [24, 25, 12, 13, 14, 4, 15, 16, 17, 18, 19, 10, 20, 26, 27, 28, 29, 30, 31, 32, 33, 34, 35, 36, 37, 6, 7, 8, 9, 11, 38, 39, 40, 41, 42, 43, 44, 45, 46, 47, 48, 49] (by decide +kernel) (by decide +kernel)
set_option maxRecDepth 20000 in
theorem gX4_lastTold_X4_leafTold : GoodIn wsX4_lastTold (wsV RX4 126 RX4 yX4_leafTold wsX4_leafTold) := goodIn_app (goodIn_of _ (by decide +kernel)) ggX4_lastTold_X4_leafTold
theorem dX4_lastTold_0 : decode cX4_lastTold 0 = .ok (.iload_n 2, 1) := by decide +kernel
theorem dX4_lastTold_1 : decode cX4_lastTold 1 = .ok (.iconst 5, 1) := by decide +kernel
theorem dX4_lastTold_2 : decode cX4_lastTold 2 = .ok (.if_icmp .ne 9, 3) := by decide +kernel
theorem dX4_lastTold_5 : decode cX4_lastTold 5 = .ok (.aload_n 0, 1) := by decide +kernel
theorem dX4_lastTold_6 : decode cX4_lastTold 6 = .ok (.iload_n 1, 1) := by decide +kernel
theorem dX4_lastTold_7 : decode cX4_lastTold 7 = .ok (.invokevirtual 53, 3) := by decide +kernel
theorem dX4_lastTold_10 : decode cX4_lastTold 10 = .ok (.ireturn, 1) := by decide +kernel
theorem dX4_lastTold_11 : decode cX4_lastTold 11 = .ok (.aload_n 0, 1) := by decide +kernel
theorem dX4_lastTold_12 : decode cX4_lastTold 12 = .ok (.iload_n 1, 1) := by decide +kernel
theorem dX4_lastTold_13 : decode cX4_lastTold 13 = .ok (.invokevirtual 44, 3) := by decide +kernel
theorem dX4_lastTold_16 : decode cX4_lastTold 16 = .ok (.istore_n 3, 1) := by decide +kernel
theorem dX4_lastTold_17 : decode cX4_lastTold 17 = .ok (.iload_n 3, 1) := by decide +kernel
theorem dX4_lastTold_18 : decode cX4_lastTold 18 = .ok (.iconst (-1), 1) := by decide +kernel
theorem dX4_lastTold_19 : decode cX4_lastTold 19 = .ok (.if_icmp .ne 7, 3) := by decide +kernel
theorem dX4_lastTold_22 : decode cX4_lastTold 22 = .ok (.iconst (-1), 1) := by decide +kernel
theorem dX4_lastTold_23 : decode cX4_lastTold 23 = .ok (.goto 10, 3) := by decide +kernel
theorem dX4_lastTold_26 : decode cX4_lastTold 26 = .ok (.aload_n 0, 1) := by decide +kernel
theorem dX4_lastTold_27 : decode cX4_lastTold 27 = .ok (.iload_n 1, 1) := by decide +kernel
theorem dX4_lastTold_28 : decode cX4_lastTold 28 = .ok (.iload_n 3, 1) := by decide +kernel
theorem dX4_lastTold_29 : decode cX4_lastTold 29 = .ok (.iload_n 2, 1) := by decide +kernel
theorem dX4_lastTold_30 : decode cX4_lastTold 30 = .ok (.invokevirtual 126, 3) := by decide +kernel
theorem dX4_lastTold_33 : decode cX4_lastTold 33 = .ok (.ireturn, 1) := by decide +kernel
set_option maxRecDepth 20000 in
theorem ggX4_told_X4_isLast : GoodIn wsX4_told wsX4_isLast := goodIn_r _ [5, 6, 7, 4, 8] (by decide +kernel) (by decide +kernel)
set_option maxRecDepth 20000 in
theorem gX4_told_X4_isLast : GoodIn wsX4_told (va_wsS RX4 89 yX4_isLast wsX4_isLast) := goodIn_app (goodIn_of _ (by decide +kernel)) ggX4_told_X4_isLast
set_option maxRecDepth 20000 in
theorem ggX4_told_X4_isIn : GoodIn wsX4_told wsX4_isIn := goodIn_r _ [8] (by decide +kernel) (by decide +kernel)
set_option maxRecDepth 20000 in
theorem gX4_told_X4_isIn : GoodIn wsX4_told (va_wsS RX4 36 yX4_isIn wsX4_isIn) := goodIn_app (goodIn_of _ (by decide +kernel)) ggX4_told_X4_isIn
set_option maxRecDepth 20000 in
theorem ggX4_told_X4_lastTold : GoodIn wsX4_told wsX4_lastTold := goodIn_r _ [12, 13, 14, 15, 4, 16, 17, 18, 19, 20, 21, 22, 23, 24, 25, 26, 27, 28, 29, 30, 31, 32, 33, 34, 35, 36, 37, 38, 39, 40, 41, 42, 43, 44, 45, 46, 47, 48, 53, 54, 55, 56, 57, 58, 59, 60, 61, 62, 63, 64] (by decide +kernel) (by decide +kernel)
set_option maxRecDepth 20000 in
theorem gX4_told_X4_lastTold : GoodIn wsX4_told (wsV RX4 129 RX4 yX4_lastTold wsX4_lastTold) := goodIn_app (goodIn_of _ (by decide +kernel)) ggX4_told_X4_lastTold
set_option maxRecDepth 20000 in
theorem ggX4_told_X4_no : GoodIn wsX4_told wsX4_no := goodIn_r _ [52, 1, 53, 54, 55, 56, 57, 58, 59, 60, 61, 62, 63, 64] (by decide +kernel) (by decide +kernel)
set_option maxRecDepth 20000 in
theorem gX4_told_X4_no : GoodIn wsX4_told (wsV RX4 110 RX4 yX4_no wsX4_no) := goodIn_app (goodIn_of _ (by decide +kernel)) ggX4_told_X4_no
theorem dX4_told_0 : decode cX4_told 0 = .ok (.aload_n 0, 1) := by decide +kernel
theorem dX4_told_1 : decode cX4_told 1 = .ok (.iconst 0, 1) := by decide +kernel
theorem dX4_told_2 : decode cX4_told 2 = .ok (.putfield 33, 3) := by decide +kernel
theorem dX4_told_5 : decode cX4_told 5 = .ok (.iload_n 1, 1) := by decide +kernel
theorem dX4_told_6 : decode cX4_told 6 = .ok (.invokestatic 89, 3) := by decide +kernel
theorem dX4_told_9 : decode cX4_told 9 = .ok (.ifCond .eq 21, 3) := by decide +kernel
theorem dX4_told_12 : decode cX4_told 12 = .ok (.iload_n 2, 1) := by decide +kernel
theorem dX4_told_13 : decode cX4_told 13 = .ok (.iconst 0, 1) := by decide +kernel
theorem dX4_told_14 : decode cX4_told 14 = .ok (.iconst 5, 1) := by decide +kernel
theorem dX4_told_15 : decode cX4_told 15 = .ok (.invokestatic 36, 3) := by decide +kernel
theorem dX4_told_18 : decode cX4_told 18 = .ok (.ifCond .eq 12, 3) := by decide +kernel
theorem dX4_told_21 : decode cX4_told 21 = .ok (.aload_n 0, 1) := by decide +kernel
theorem dX4_told_22 : decode cX4_told 22 = .ok (.iload_n 1, 1) := by decide +kernel
theorem dX4_told_23 : decode cX4_told 23 = .ok (.iload_n 2, 1) := by decide +kernel
theorem dX4_told_24 : decode cX4_told 24 = .ok (.invokevirtual 129, 3) := by decide +kernel
theorem dX4_told_27 : decode cX4_told 27 = .ok (.goto 8, 3) := by decide +kernel
theorem dX4_told_30 : decode cX4_told 30 = .ok (.aload_n 0, 1) := by decide +kernel
theorem dX4_told_31 : decode cX4_told 31 = .ok (.iconst 1, 1) := by decide +kernel
theorem dX4_told_32 : decode cX4_told 32 = .ok (.invokevirtual 110, 3) := by decide +kernel
theorem dX4_told_35 : decode cX4_told 35 = .ok (.ireturn, 1) := by decide +kernel
set_option maxRecDepth 20000 in
theorem ggX4_sole_X4_isIn : GoodIn wsX4_sole wsX4_isIn := goodIn_r _ [5] (by decide +kernel) (by decide +kernel)
set_option maxRecDepth 20000 in
theorem gX4_sole_X4_isIn : GoodIn wsX4_sole (va_wsS RX4 36 yX4_isIn wsX4_isIn) := goodIn_app (goodIn_of _ (by decide +kernel)) ggX4_sole_X4_isIn
set_option maxRecDepth 20000 in
theorem ggX4_sole_X4_lastTold : GoodIn wsX4_sole wsX4_lastTold := goodIn_r _ [9, 10, 11, 12, 4, 13, 14, 15, 16, 17, 18, 19, 20, 21, 22, 23, 24, 25, 26, 27, 28, 29, 30, 31, 32, 33, 34, 35, 36, 37, 38, 39, 40, 41, 42, 43, 44, 45, 50, 51, 52, 53, 54, 55, 56, 57, 58, 59, 60, 61] (by decide +kernel) (by decide +kernel)
set_option maxRecDepth 20000 in
theorem gX4_sole_X4_lastTold : GoodIn wsX4_sole (wsV RX4 129 RX4 yX4_lastTold wsX4_lastTold) := goodIn_app (goodIn_of _ (by decide +kernel)) ggX4_sole_X4_lastTold
set_option maxRecDepth 20000 in
theorem ggX4_sole_X4_no : GoodIn wsX4_sole wsX4_no := goodIn_r _ [49, 1, 50, 51, 52, 53, 54, 55, 56, 57, 58, 59, 60, 61] (by decide +kernel) (by decide +kernel)
set_option maxRecDepth 20000 in
theorem gX4_sole_X4_no : GoodIn wsX4_sole (wsV RX4 110 RX4 yX4_no wsX4_no) := goodIn_app (goodIn_of _ (by decide +kernel)) ggX4_sole_X4_no
theorem dX4_sole_0 : decode cX4_sole 0 = .ok (.aload_n 0, 1) := by decide +kernel
theorem dX4_sole_1 : decode cX4_sole 1 = .ok (.iconst 0, 1) := by decide +kernel
theorem dX4_sole_2 : decode cX4_sole 2 = .ok (.putfield 33, 3) := by decide +kernel
theorem dX4_sole_5 : decode cX4_sole 5 = .ok (.iload_n 1, 1) := by decide +kernel
theorem dX4_sole_6 : decode cX4_sole 6 = .ok (.iconst 0, 1) := by decide +kernel
theorem dX4_sole_7 : decode cX4_sole 7 = .ok (.iconst 4, 1) := by decide +kernel
theorem dX4_sole_8 : decode cX4_sole 8 = .ok (.invokestatic 36, 3) := by decide +kernel
theorem dX4_sole_11 : decode cX4_sole 11 = .ok (.ifCond .eq 13, 3) := by decide +kernel
theorem dX4_sole_14 : decode cX4_sole 14 = .ok (.aload_n 0, 1) := by decide +kernel
theorem dX4_sole_15 : decode cX4_sole 15 = .ok (.bipush 32, 2) := by decide +kernel
theorem dX4_sole_17 : decode cX4_sole 17 = .ok (.iload_n 1, 1) := by decide +kernel
theorem dX4_sole_18 : decode cX4_sole 18 = .ok (.invokevirtual 129, 3) := by decide +kernel
theorem dX4_sole_21 : decode cX4_sole 21 = .ok (.goto 8, 3) := by decide +kernel
theorem dX4_sole_24 : decode cX4_sole 24 = .ok (.aload_n 0, 1) := by decide +kernel
theorem dX4_sole_25 : decode cX4_sole 25 = .ok (.iconst 1, 1) := by decide +kernel
theorem dX4_sole_26 : decode cX4_sole 26 = .ok (.invokevirtual 110, 3) := by decide +kernel
theorem dX4_sole_29 : decode cX4_sole 29 = .ok (.ireturn, 1) := by decide +kernel
set_option maxRecDepth 20000 in
theorem ggX4_nodeTold_X4_above : GoodIn wsX4_nodeTold wsX4_above := goodIn_r _ [8, 9, 3, 10, 11, 12, 13, 14, 15, 16, 17, 18, 19, 20, 21] (by decide +kernel) (by decide +kernel)
set_option maxRecDepth 20000 in
theorem gX4_nodeTold_X4_above : GoodIn wsX4_nodeTold (wsV RX4 40 RX4 yX4_above wsX4_above) := goodIn_app (goodIn_of _ (by decide +kernel)) ggX4_nodeTold_X4_above
theorem dX4_nodeTold_0 : decode cX4_nodeTold 0 = .ok (.iload_n 2, 1) := by decide +kernel
theorem dX4_nodeTold_1 : decode cX4_nodeTold 1 = .ok (.tableswitch 47 0 2 #[27, 34, 41], 27) := by decide +kernel
theorem dX4_nodeTold_28 : decode cX4_nodeTold 28 = .ok (.aload_n 0, 1) := by decide +kernel
theorem dX4_nodeTold_29 : decode cX4_nodeTold 29 = .ok (.getfield 9, 3) := by decide +kernel
theorem dX4_nodeTold_32 : decode cX4_nodeTold 32 = .ok (.iload_n 1, 1) := by decide +kernel
theorem dX4_nodeTold_33 : decode cX4_nodeTold 33 = .ok (.iaload, 1) := by decide +kernel
theorem dX4_nodeTold_34 : decode cX4_nodeTold 34 = .ok (.ireturn, 1) := by decide +kernel
theorem dX4_nodeTold_35 : decode cX4_nodeTold 35 = .ok (.aload_n 0, 1) := by decide +kernel
theorem dX4_nodeTold_36 : decode cX4_nodeTold 36 = .ok (.getfield 13, 3) := by decide +kernel
theorem dX4_nodeTold_39 : decode cX4_nodeTold 39 = .ok (.iload_n 1, 1) := by decide +kernel
theorem dX4_nodeTold_40 : decode cX4_nodeTold 40 = .ok (.iaload, 1) := by decide +kernel
theorem dX4_nodeTold_41 : decode cX4_nodeTold 41 = .ok (.ireturn, 1) := by decide +kernel
theorem dX4_nodeTold_42 : decode cX4_nodeTold 42 = .ok (.aload_n 0, 1) := by decide +kernel
theorem dX4_nodeTold_43 : decode cX4_nodeTold 43 = .ok (.iload_n 1, 1) := by decide +kernel
theorem dX4_nodeTold_44 : decode cX4_nodeTold 44 = .ok (.invokevirtual 40, 3) := by decide +kernel
theorem dX4_nodeTold_47 : decode cX4_nodeTold 47 = .ok (.ireturn, 1) := by decide +kernel
theorem dX4_nodeTold_48 : decode cX4_nodeTold 48 = .ok (.aload_n 0, 1) := by decide +kernel
theorem dX4_nodeTold_49 : decode cX4_nodeTold 49 = .ok (.getfield 16, 3) := by decide +kernel
theorem dX4_nodeTold_52 : decode cX4_nodeTold 52 = .ok (.iload_n 1, 1) := by decide +kernel
theorem dX4_nodeTold_53 : decode cX4_nodeTold 53 = .ok (.iaload, 1) := by decide +kernel
theorem dX4_nodeTold_54 : decode cX4_nodeTold 54 = .ok (.ireturn, 1) := by decide +kernel
set_option maxRecDepth 20000 in
theorem ggX4_node_X4_isIn : GoodIn wsX4_node wsX4_isIn := goodIn_r _ [6] (by decide +kernel) (by decide +kernel)
set_option maxRecDepth 20000 in
theorem gX4_node_X4_isIn : GoodIn wsX4_node (va_wsS RX4 36 yX4_isIn wsX4_isIn) := goodIn_app (goodIn_of _ (by decide +kernel)) ggX4_node_X4_isIn
set_option maxRecDepth 20000 in
theorem ggX4_node_X4_nodeTold : GoodIn wsX4_node wsX4_nodeTold := goodIn_r _ [10, 11, 12, 13, 14, 15, 16, 5, 17, 2, 22, 23, 24, 25, 26, 27, 28, 29, 30, 31, 32, 33] (by decide +kernel) (by decide +kernel)
set_option maxRecDepth 20000 in
theorem gX4_node_X4_nodeTold : GoodIn wsX4_node (wsV RX4 132 RX4 yX4_nodeTold wsX4_nodeTold) := goodIn_app (goodIn_of _ (by decide +kernel)) ggX4_node_X4_nodeTold
set_option maxRecDepth 20000 in
theorem ggX4_node_X4_no : GoodIn wsX4_node wsX4_no := goodIn_r _ [21, 1, 22, 23, 24, 25, 26, 27, 28, 29, 30, 31, 32, 33] (by decide +kernel) (by decide +kernel)
set_option maxRecDepth 20000 in
theorem gX4_node_X4_no : GoodIn wsX4_node (wsV RX4 110 RX4 yX4_no wsX4_no) := goodIn_app (goodIn_of _ (by decide +kernel)) ggX4_node_X4_no
theorem dX4_node_0 : decode cX4_node 0 = .ok (.aload_n 0, 1) := by decide +kernel
theorem dX4_node_1 : decode cX4_node 1 = .ok (.iconst 0, 1) := by decide +kernel
theorem dX4_node_2 : decode cX4_node 2 = .ok (.putfield 33, 3) := by decide +kernel
theorem dX4_node_5 : decode cX4_node 5 = .ok (.iload_n 1, 1) := by decide +kernel
theorem dX4_node_6 : decode cX4_node 6 = .ok (.iconst 0, 1) := by decide +kernel
theorem dX4_node_7 : decode cX4_node 7 = .ok (.aload_n 0, 1) := by decide +kernel
theorem dX4_node_8 : decode cX4_node 8 = .ok (.getfield 19, 3) := by decide +kernel
theorem dX4_node_11 : decode cX4_node 11 = .ok (.iconst 1, 1) := by decide +kernel
theorem dX4_node_12 : decode cX4_node 12 = .ok (.isub, 1) := by decide +kernel
theorem dX4_node_13 : decode cX4_node 13 = .ok (.invokestatic 36, 3) := by decide +kernel
theorem dX4_node_16 : decode cX4_node 16 = .ok (.ifCond .eq 21, 3) := by decide +kernel
theorem dX4_node_19 : decode cX4_node 19 = .ok (.iload_n 2, 1) := by decide +kernel
theorem dX4_node_20 : decode cX4_node 20 = .ok (.iconst 0, 1) := by decide +kernel
theorem dX4_node_21 : decode cX4_node 21 = .ok (.iconst 3, 1) := by decide +kernel
theorem dX4_node_22 : decode cX4_node 22 = .ok (.invokestatic 36, 3) := by decide +kernel
theorem dX4_node_25 : decode cX4_node 25 = .ok (.ifCond .eq 12, 3) := by decide +kernel
theorem dX4_node_28 : decode cX4_node 28 = .ok (.aload_n 0, 1) := by decide +kernel
theorem dX4_node_29 : decode cX4_node 29 = .ok (.iload_n 1, 1) := by decide +kernel
theorem dX4_node_30 : decode cX4_node 30 = .ok (.iload_n 2, 1) := by decide +kernel
theorem dX4_node_31 : decode cX4_node 31 = .ok (.invokevirtual 132, 3) := by decide +kernel
theorem dX4_node_34 : decode cX4_node 34 = .ok (.goto 8, 3) := by decide +kernel
theorem dX4_node_37 : decode cX4_node 37 = .ok (.aload_n 0, 1) := by decide +kernel
theorem dX4_node_38 : decode cX4_node 38 = .ok (.iconst 1, 1) := by decide +kernel
theorem dX4_node_39 : decode cX4_node 39 = .ok (.invokevirtual 110, 3) := by decide +kernel
theorem dX4_node_42 : decode cX4_node 42 = .ok (.ireturn, 1) := by decide +kernel
set_option maxRecDepth 20000 in
theorem ggX4_counted_X4_known : GoodIn wsX4_counted wsX4_known := goodIn_r _ [13, 2, 14, 15, 16, 17, 18, 19, 20, 21, 22, 23, 24, 25] (by decide +kernel) (by decide +kernel)
set_option maxRecDepth 20000 in
theorem gX4_counted_X4_known : GoodIn wsX4_counted (wsV RX4 86 RX4 yX4_known wsX4_known) := goodIn_app (goodIn_of _ (by decide +kernel)) ggX4_counted_X4_known
theorem dX4_counted_0 : decode cX4_counted 0 = .ok (.bipush 8, 2) := by decide +kernel
theorem dX4_counted_2 : decode cX4_counted 2 = .ok (.newarray .int, 2) := by decide +kernel
theorem dX4_counted_4 : decode cX4_counted 4 = .ok (.dup, 1) := by decide +kernel
theorem dX4_counted_5 : decode cX4_counted 5 = .ok (.iconst 0, 1) := by decide +kernel
theorem dX4_counted_6 : decode cX4_counted 6 = .ok (.aload_n 0, 1) := by decide +kernel
theorem dX4_counted_7 : decode cX4_counted 7 = .ok (.invokevirtual 86, 3) := by decide +kernel
theorem dX4_counted_10 : decode cX4_counted 10 = .ok (.iastore, 1) := by decide +kernel
theorem dX4_counted_11 : decode cX4_counted 11 = .ok (.dup, 1) := by decide +kernel
theorem dX4_counted_12 : decode cX4_counted 12 = .ok (.iconst 1, 1) := by decide +kernel
theorem dX4_counted_13 : decode cX4_counted 13 = .ok (.aload_n 0, 1) := by decide +kernel
theorem dX4_counted_14 : decode cX4_counted 14 = .ok (.getfield 19, 3) := by decide +kernel
theorem dX4_counted_17 : decode cX4_counted 17 = .ok (.iastore, 1) := by decide +kernel
theorem dX4_counted_18 : decode cX4_counted 18 = .ok (.dup, 1) := by decide +kernel
theorem dX4_counted_19 : decode cX4_counted 19 = .ok (.iconst 2, 1) := by decide +kernel
theorem dX4_counted_20 : decode cX4_counted 20 = .ok (.aload_n 0, 1) := by decide +kernel
theorem dX4_counted_21 : decode cX4_counted 21 = .ok (.getfield 9, 3) := by decide +kernel
theorem dX4_counted_24 : decode cX4_counted 24 = .ok (.iconst 0, 1) := by decide +kernel
theorem dX4_counted_25 : decode cX4_counted 25 = .ok (.iaload, 1) := by decide +kernel
theorem dX4_counted_26 : decode cX4_counted 26 = .ok (.iastore, 1) := by decide +kernel
theorem dX4_counted_27 : decode cX4_counted 27 = .ok (.dup, 1) := by decide +kernel
theorem dX4_counted_28 : decode cX4_counted 28 = .ok (.iconst 3, 1) := by decide +kernel
theorem dX4_counted_29 : decode cX4_counted 29 = .ok (.aload_n 0, 1) := by decide +kernel
theorem dX4_counted_30 : decode cX4_counted 30 = .ok (.getfield 67, 3) := by decide +kernel
theorem dX4_counted_33 : decode cX4_counted 33 = .ok (.iastore, 1) := by decide +kernel
theorem dX4_counted_34 : decode cX4_counted 34 = .ok (.dup, 1) := by decide +kernel
theorem dX4_counted_35 : decode cX4_counted 35 = .ok (.iconst 4, 1) := by decide +kernel
theorem dX4_counted_36 : decode cX4_counted 36 = .ok (.aload_n 0, 1) := by decide +kernel
theorem dX4_counted_37 : decode cX4_counted 37 = .ok (.getfield 70, 3) := by decide +kernel
theorem dX4_counted_40 : decode cX4_counted 40 = .ok (.iastore, 1) := by decide +kernel
theorem dX4_counted_41 : decode cX4_counted 41 = .ok (.dup, 1) := by decide +kernel
theorem dX4_counted_42 : decode cX4_counted 42 = .ok (.iconst 5, 1) := by decide +kernel
theorem dX4_counted_43 : decode cX4_counted 43 = .ok (.aload_n 0, 1) := by decide +kernel
theorem dX4_counted_44 : decode cX4_counted 44 = .ok (.getfield 50, 3) := by decide +kernel
theorem dX4_counted_47 : decode cX4_counted 47 = .ok (.iastore, 1) := by decide +kernel
theorem dX4_counted_48 : decode cX4_counted 48 = .ok (.dup, 1) := by decide +kernel
theorem dX4_counted_49 : decode cX4_counted 49 = .ok (.bipush 6, 2) := by decide +kernel
theorem dX4_counted_51 : decode cX4_counted 51 = .ok (.aload_n 0, 1) := by decide +kernel
theorem dX4_counted_52 : decode cX4_counted 52 = .ok (.getfield 100, 3) := by decide +kernel
theorem dX4_counted_55 : decode cX4_counted 55 = .ok (.iastore, 1) := by decide +kernel
theorem dX4_counted_56 : decode cX4_counted 56 = .ok (.dup, 1) := by decide +kernel
theorem dX4_counted_57 : decode cX4_counted 57 = .ok (.bipush 7, 2) := by decide +kernel
theorem dX4_counted_59 : decode cX4_counted 59 = .ok (.aload_n 0, 1) := by decide +kernel
theorem dX4_counted_60 : decode cX4_counted 60 = .ok (.getfield 23, 3) := by decide +kernel
theorem dX4_counted_63 : decode cX4_counted 63 = .ok (.iastore, 1) := by decide +kernel
theorem dX4_counted_64 : decode cX4_counted 64 = .ok (.astore_n 2, 1) := by decide +kernel
theorem dX4_counted_65 : decode cX4_counted 65 = .ok (.aload_n 2, 1) := by decide +kernel
theorem dX4_counted_66 : decode cX4_counted 66 = .ok (.iload_n 1, 1) := by decide +kernel
theorem dX4_counted_67 : decode cX4_counted 67 = .ok (.iaload, 1) := by decide +kernel
theorem dX4_counted_68 : decode cX4_counted 68 = .ok (.ireturn, 1) := by decide +kernel
set_option maxRecDepth 20000 in
theorem ggX4_count_X4_isIn : GoodIn wsX4_count wsX4_isIn := goodIn_r _ [5] (by decide +kernel) (by decide +kernel)
set_option maxRecDepth 20000 in
theorem gX4_count_X4_isIn : GoodIn wsX4_count (va_wsS RX4 36 yX4_isIn wsX4_isIn) := goodIn_app (goodIn_of _ (by decide +kernel)) ggX4_count_X4_isIn
set_option maxRecDepth 20000 in
theorem ggX4_count_X4_counted : GoodIn wsX4_count wsX4_counted := goodIn_r _ [9, 10, 11, 12, 13, 14, 15, 16, 17, 18, 19, 20, 4, 21, 26, 27, 28, 29, 30, 31, 32, 33, 34, 35, 36, 37] (by decide +kernel) (by decide +kernel)
set_option maxRecDepth 20000 in
theorem gX4_count_X4_counted : GoodIn wsX4_count (wsV RX4 135 RX4 yX4_counted wsX4_counted) := goodIn_app (goodIn_of _ (by decide +kernel)) ggX4_count_X4_counted
set_option maxRecDepth 20000 in
theorem ggX4_count_X4_no : GoodIn wsX4_count wsX4_no := goodIn_r _ [25, 1, 26, 27, 28, 29, 30, 31, 32, 33, 34, 35, 36, 37] (by decide +kernel) (by decide +kernel)
set_option maxRecDepth 20000 in
theorem gX4_count_X4_no : GoodIn wsX4_count (wsV RX4 110 RX4 yX4_no wsX4_no) := goodIn_app (goodIn_of _ (by decide +kernel)) ggX4_count_X4_no
theorem dX4_count_0 : decode cX4_count 0 = .ok (.aload_n 0, 1) := by decide +kernel
theorem dX4_count_1 : decode cX4_count 1 = .ok (.iconst 0, 1) := by decide +kernel
theorem dX4_count_2 : decode cX4_count 2 = .ok (.putfield 33, 3) := by decide +kernel
theorem dX4_count_5 : decode cX4_count 5 = .ok (.iload_n 1, 1) := by decide +kernel
theorem dX4_count_6 : decode cX4_count 6 = .ok (.iconst 0, 1) := by decide +kernel
theorem dX4_count_7 : decode cX4_count 7 = .ok (.bipush 7, 2) := by decide +kernel
theorem dX4_count_9 : decode cX4_count 9 = .ok (.invokestatic 36, 3) := by decide +kernel
theorem dX4_count_12 : decode cX4_count 12 = .ok (.ifCond .eq 11, 3) := by decide +kernel
theorem dX4_count_15 : decode cX4_count 15 = .ok (.aload_n 0, 1) := by decide +kernel
theorem dX4_count_16 : decode cX4_count 16 = .ok (.iload_n 1, 1) := by decide +kernel
theorem dX4_count_17 : decode cX4_count 17 = .ok (.invokevirtual 135, 3) := by decide +kernel
theorem dX4_count_20 : decode cX4_count 20 = .ok (.goto 8, 3) := by decide +kernel
theorem dX4_count_23 : decode cX4_count 23 = .ok (.aload_n 0, 1) := by decide +kernel
theorem dX4_count_24 : decode cX4_count 24 = .ok (.iconst 1, 1) := by decide +kernel
theorem dX4_count_25 : decode cX4_count 25 = .ok (.invokevirtual 110, 3) := by decide +kernel
theorem dX4_count_28 : decode cX4_count 28 = .ok (.ireturn, 1) := by decide +kernel
theorem dX4_readOne_0 : decode cX4_readOne 0 = .ok (.iload_n 2, 1) := by decide +kernel
theorem dX4_readOne_1 : decode cX4_readOne 1 = .ok (.istore_n 3, 1) := by decide +kernel
theorem dX4_readOne_2 : decode cX4_readOne 2 = .ok (.iconst 0, 1) := by decide +kernel
theorem dX4_readOne_3 : decode cX4_readOne 3 = .ok (.istore 4, 2) := by decide +kernel
theorem dX4_readOne_5 : decode cX4_readOne 5 = .ok (.aload_n 0, 1) := by decide +kernel
theorem dX4_readOne_6 : decode cX4_readOne 6 = .ok (.getfield 16, 3) := by decide +kernel
theorem dX4_readOne_9 : decode cX4_readOne 9 = .ok (.iload 4, 2) := by decide +kernel
theorem dX4_readOne_11 : decode cX4_readOne 11 = .ok (.iaload, 1) := by decide +kernel
theorem dX4_readOne_12 : decode cX4_readOne 12 = .ok (.iconst (-1), 1) := by decide +kernel
theorem dX4_readOne_13 : decode cX4_readOne 13 = .ok (.if_icmp .eq 30, 3) := by decide +kernel
theorem dX4_readOne_16 : decode cX4_readOne 16 = .ok (.iload_n 3, 1) := by decide +kernel
theorem dX4_readOne_17 : decode cX4_readOne 17 = .ok (.ifCond .ne 5, 3) := by decide +kernel
theorem dX4_readOne_20 : decode cX4_readOne 20 = .ok (.iconst (-1), 1) := by decide +kernel
theorem dX4_readOne_21 : decode cX4_readOne 21 = .ok (.ireturn, 1) := by decide +kernel
theorem dX4_readOne_22 : decode cX4_readOne 22 = .ok (.iinc 3 (-1), 3) := by decide +kernel
theorem dX4_readOne_25 : decode cX4_readOne 25 = .ok (.aload_n 0, 1) := by decide +kernel
theorem dX4_readOne_26 : decode cX4_readOne 26 = .ok (.getfield 16, 3) := by decide +kernel
theorem dX4_readOne_29 : decode cX4_readOne 29 = .ok (.iload 4, 2) := by decide +kernel
theorem dX4_readOne_31 : decode cX4_readOne 31 = .ok (.iaload, 1) := by decide +kernel
theorem dX4_readOne_32 : decode cX4_readOne 32 = .ok (.iload_n 1, 1) := by decide +kernel
theorem dX4_readOne_33 : decode cX4_readOne 33 = .ok (.iload_n 3, 1) := by decide +kernel
theorem dX4_readOne_34 : decode cX4_readOne 34 = .ok (.ishr, 1) := by decide +kernel
theorem dX4_readOne_35 : decode cX4_readOne 35 = .ok (.iconst 1, 1) := by decide +kernel
theorem dX4_readOne_36 : decode cX4_readOne 36 = .ok (.iand, 1) := by decide +kernel
theorem dX4_readOne_37 : decode cX4_readOne 37 = .ok (.iadd, 1) := by decide +kernel
theorem dX4_readOne_38 : decode cX4_readOne 38 = .ok (.istore 4, 2) := by decide +kernel
theorem dX4_readOne_40 : decode cX4_readOne 40 = .ok (.goto (-35), 3) := by decide +kernel
theorem dX4_readOne_43 : decode cX4_readOne 43 = .ok (.aload_n 0, 1) := by decide +kernel
theorem dX4_readOne_44 : decode cX4_readOne 44 = .ok (.getfield 13, 3) := by decide +kernel
theorem dX4_readOne_47 : decode cX4_readOne 47 = .ok (.iload 4, 2) := by decide +kernel
theorem dX4_readOne_49 : decode cX4_readOne 49 = .ok (.iaload, 1) := by decide +kernel
theorem dX4_readOne_50 : decode cX4_readOne 50 = .ok (.bipush 32, 2) := by decide +kernel
theorem dX4_readOne_52 : decode cX4_readOne 52 = .ok (.if_icmp .eq 11, 3) := by decide +kernel
theorem dX4_readOne_55 : decode cX4_readOne 55 = .ok (.aload_n 0, 1) := by decide +kernel
theorem dX4_readOne_56 : decode cX4_readOne 56 = .ok (.getfield 13, 3) := by decide +kernel
theorem dX4_readOne_59 : decode cX4_readOne 59 = .ok (.iload 4, 2) := by decide +kernel
theorem dX4_readOne_61 : decode cX4_readOne 61 = .ok (.iaload, 1) := by decide +kernel
theorem dX4_readOne_62 : decode cX4_readOne 62 = .ok (.ireturn, 1) := by decide +kernel
theorem dX4_readOne_63 : decode cX4_readOne 63 = .ok (.iload_n 3, 1) := by decide +kernel
theorem dX4_readOne_64 : decode cX4_readOne 64 = .ok (.iconst 5, 1) := by decide +kernel
theorem dX4_readOne_65 : decode cX4_readOne 65 = .ok (.if_icmp .ge 7, 3) := by decide +kernel
theorem dX4_readOne_68 : decode cX4_readOne 68 = .ok (.iconst (-1), 1) := by decide +kernel
theorem dX4_readOne_69 : decode cX4_readOne 69 = .ok (.goto 14, 3) := by decide +kernel
theorem dX4_readOne_72 : decode cX4_readOne 72 = .ok (.bipush 100, 2) := by decide +kernel
theorem dX4_readOne_74 : decode cX4_readOne 74 = .ok (.iload_n 1, 1) := by decide +kernel
theorem dX4_readOne_75 : decode cX4_readOne 75 = .ok (.iload_n 3, 1) := by decide +kernel
theorem dX4_readOne_76 : decode cX4_readOne 76 = .ok (.iconst 5, 1) := by decide +kernel
theorem dX4_readOne_77 : decode cX4_readOne 77 = .ok (.isub, 1) := by decide +kernel
theorem dX4_readOne_78 : decode cX4_readOne 78 = .ok (.ishr, 1) := by decide +kernel
theorem dX4_readOne_79 : decode cX4_readOne 79 = .ok (.bipush 31, 2) := by decide +kernel
theorem dX4_readOne_81 : decode cX4_readOne 81 = .ok (.iand, 1) := by decide +kernel
theorem dX4_readOne_82 : decode cX4_readOne 82 = .ok (.iadd, 1) := by decide +kernel
theorem dX4_readOne_83 : decode cX4_readOne 83 = .ok (.ireturn, 1) := by decide +kernel
set_option maxRecDepth 20000 in
theorem ggX4_read_X4_isIn : GoodIn wsX4_read wsX4_isIn := goodIn_r _ [5] (by decide +kernel) (by decide +kernel)
set_option maxRecDepth 20000 in
theorem gX4_read_X4_isIn : GoodIn wsX4_read (va_wsS RX4 36 yX4_isIn wsX4_isIn) := goodIn_app (goodIn_of _ (by decide +kernel)) ggX4_read_X4_isIn
set_option maxRecDepth 20000 in
theorem ggX4_read_X4_readOne : GoodIn wsX4_read wsX4_readOne := goodIn_r _ [9, 10, 11, 16, 17, 18, 19, 20, 21, 22, 23, 24, 25, 26, 27] (by decide +kernel) (by decide +kernel)
set_option maxRecDepth 20000 in
theorem gX4_read_X4_readOne : GoodIn wsX4_read (wsV RX4 138 RX4 yX4_readOne wsX4_readOne) := goodIn_app (goodIn_of _ (by decide +kernel)) ggX4_read_X4_readOne
set_option maxRecDepth 20000 in
theorem ggX4_read_X4_no : GoodIn wsX4_read wsX4_no := goodIn_r _ [15, 1, 16, 17, 18, 19, 20, 21, 22, 23, 24, 25, 26, 27] (by decide +kernel) (by decide +kernel)
set_option maxRecDepth 20000 in
theorem gX4_read_X4_no : GoodIn wsX4_read (wsV RX4 110 RX4 yX4_no wsX4_no) := goodIn_app (goodIn_of _ (by decide +kernel)) ggX4_read_X4_no
theorem dX4_read_0 : decode cX4_read 0 = .ok (.aload_n 0, 1) := by decide +kernel
theorem dX4_read_1 : decode cX4_read 1 = .ok (.iconst 0, 1) := by decide +kernel
theorem dX4_read_2 : decode cX4_read 2 = .ok (.putfield 33, 3) := by decide +kernel
theorem dX4_read_5 : decode cX4_read 5 = .ok (.iload_n 2, 1) := by decide +kernel
theorem dX4_read_6 : decode cX4_read 6 = .ok (.iconst 1, 1) := by decide +kernel
theorem dX4_read_7 : decode cX4_read 7 = .ok (.bipush 30, 2) := by decide +kernel
theorem dX4_read_9 : decode cX4_read 9 = .ok (.invokestatic 36, 3) := by decide +kernel
theorem dX4_read_12 : decode cX4_read 12 = .ok (.ifCond .eq 22, 3) := by decide +kernel
theorem dX4_read_15 : decode cX4_read 15 = .ok (.iload_n 1, 1) := by decide +kernel
theorem dX4_read_16 : decode cX4_read 16 = .ok (.ifCond .lt 18, 3) := by decide +kernel
theorem dX4_read_19 : decode cX4_read 19 = .ok (.iload_n 1, 1) := by decide +kernel
theorem dX4_read_20 : decode cX4_read 20 = .ok (.iload_n 2, 1) := by decide +kernel
theorem dX4_read_21 : decode cX4_read 21 = .ok (.ishr, 1) := by decide +kernel
theorem dX4_read_22 : decode cX4_read 22 = .ok (.ifCond .ne 12, 3) := by decide +kernel
theorem dX4_read_25 : decode cX4_read 25 = .ok (.aload_n 0, 1) := by decide +kernel
theorem dX4_read_26 : decode cX4_read 26 = .ok (.iload_n 1, 1) := by decide +kernel
theorem dX4_read_27 : decode cX4_read 27 = .ok (.iload_n 2, 1) := by decide +kernel
theorem dX4_read_28 : decode cX4_read 28 = .ok (.invokevirtual 138, 3) := by decide +kernel
theorem dX4_read_31 : decode cX4_read 31 = .ok (.goto 8, 3) := by decide +kernel
theorem dX4_read_34 : decode cX4_read 34 = .ok (.aload_n 0, 1) := by decide +kernel
theorem dX4_read_35 : decode cX4_read 35 = .ok (.iconst 1, 1) := by decide +kernel
theorem dX4_read_36 : decode cX4_read 36 = .ok (.invokevirtual 110, 3) := by decide +kernel
theorem dX4_read_39 : decode cX4_read 39 = .ok (.ireturn, 1) := by decide +kernel
set_option maxRecDepth 20000 in
theorem ggX4_cheapest_X4_placeOf : GoodIn wsX4_cheapest wsX4_placeOf := goodIn_r _ [6, 7, 8, 22, 23, 24, 25, 26, 27, 28, 29, 30, 31, 32, 33] (by decide +kernel) (by decide +kernel)
set_option maxRecDepth 20000 in
theorem gX4_cheapest_X4_placeOf : GoodIn wsX4_cheapest (wsV RX4 44 RX4 yX4_placeOf wsX4_placeOf) := goodIn_app (goodIn_of _ (by decide +kernel)) ggX4_cheapest_X4_placeOf
set_option maxRecDepth 20000 in
theorem ggX4_cheapest_X4_bitsOf : GoodIn wsX4_cheapest wsX4_bitsOf := goodIn_r _ [12, 2, 3, 4, 5, 6, 7, 8, 13, 14, 15, 16, 17, 18, 19, 20, 21, 22, 23, 24, 25, 26, 27, 28, 29, 30, 31, 32, 33] (by decide +kernel) (by decide +kernel)
set_option maxRecDepth 20000 in
theorem gX4_cheapest_X4_bitsOf : GoodIn wsX4_cheapest (wsV RX4 53 RX4 yX4_bitsOf wsX4_bitsOf) := goodIn_app (goodIn_of _ (by decide +kernel)) ggX4_cheapest_X4_bitsOf
theorem dX4_cheapest_0 : decode cX4_cheapest 0 = .ok (.aload_n 0, 1) := by decide +kernel
theorem dX4_cheapest_1 : decode cX4_cheapest 1 = .ok (.iconst 0, 1) := by decide +kernel
theorem dX4_cheapest_2 : decode cX4_cheapest 2 = .ok (.putfield 33, 3) := by decide +kernel
theorem dX4_cheapest_5 : decode cX4_cheapest 5 = .ok (.iconst (-1), 1) := by decide +kernel
theorem dX4_cheapest_6 : decode cX4_cheapest 6 = .ok (.istore_n 1, 1) := by decide +kernel
theorem dX4_cheapest_7 : decode cX4_cheapest 7 = .ok (.iconst 0, 1) := by decide +kernel
theorem dX4_cheapest_8 : decode cX4_cheapest 8 = .ok (.istore_n 2, 1) := by decide +kernel
theorem dX4_cheapest_9 : decode cX4_cheapest 9 = .ok (.iload_n 2, 1) := by decide +kernel
theorem dX4_cheapest_10 : decode cX4_cheapest 10 = .ok (.bipush 32, 2) := by decide +kernel
theorem dX4_cheapest_12 : decode cX4_cheapest 12 = .ok (.if_icmp .ge 38, 3) := by decide +kernel
theorem dX4_cheapest_15 : decode cX4_cheapest 15 = .ok (.aload_n 0, 1) := by decide +kernel
theorem dX4_cheapest_16 : decode cX4_cheapest 16 = .ok (.iload_n 2, 1) := by decide +kernel
theorem dX4_cheapest_17 : decode cX4_cheapest 17 = .ok (.invokevirtual 44, 3) := by decide +kernel
theorem dX4_cheapest_20 : decode cX4_cheapest 20 = .ok (.iconst (-1), 1) := by decide +kernel
theorem dX4_cheapest_21 : decode cX4_cheapest 21 = .ok (.if_icmp .eq 23, 3) := by decide +kernel
theorem dX4_cheapest_24 : decode cX4_cheapest 24 = .ok (.iload_n 1, 1) := by decide +kernel
theorem dX4_cheapest_25 : decode cX4_cheapest 25 = .ok (.iconst (-1), 1) := by decide +kernel
theorem dX4_cheapest_26 : decode cX4_cheapest 26 = .ok (.if_icmp .eq 16, 3) := by decide +kernel
theorem dX4_cheapest_29 : decode cX4_cheapest 29 = .ok (.aload_n 0, 1) := by decide +kernel
theorem dX4_cheapest_30 : decode cX4_cheapest 30 = .ok (.iload_n 2, 1) := by decide +kernel
theorem dX4_cheapest_31 : decode cX4_cheapest 31 = .ok (.invokevirtual 53, 3) := by decide +kernel
theorem dX4_cheapest_34 : decode cX4_cheapest 34 = .ok (.aload_n 0, 1) := by decide +kernel
theorem dX4_cheapest_35 : decode cX4_cheapest 35 = .ok (.iload_n 1, 1) := by decide +kernel
theorem dX4_cheapest_36 : decode cX4_cheapest 36 = .ok (.invokevirtual 53, 3) := by decide +kernel
theorem dX4_cheapest_39 : decode cX4_cheapest 39 = .ok (.if_icmp .ge 5, 3) := by decide +kernel
theorem dX4_cheapest_42 : decode cX4_cheapest 42 = .ok (.iload_n 2, 1) := by decide +kernel
theorem dX4_cheapest_43 : decode cX4_cheapest 43 = .ok (.istore_n 1, 1) := by decide +kernel
theorem dX4_cheapest_44 : decode cX4_cheapest 44 = .ok (.iinc 2 1, 3) := by decide +kernel
theorem dX4_cheapest_47 : decode cX4_cheapest 47 = .ok (.goto (-38), 3) := by decide +kernel
theorem dX4_cheapest_50 : decode cX4_cheapest 50 = .ok (.iload_n 1, 1) := by decide +kernel
theorem dX4_cheapest_51 : decode cX4_cheapest 51 = .ok (.ireturn, 1) := by decide +kernel
theorem dX4_copy_0 : decode cX4_copy 0 = .ok (.bipush 65, 2) := by decide +kernel
theorem dX4_copy_2 : decode cX4_copy 2 = .ok (.newarray .int, 2) := by decide +kernel
theorem dX4_copy_4 : decode cX4_copy 4 = .ok (.astore_n 1, 1) := by decide +kernel
theorem dX4_copy_5 : decode cX4_copy 5 = .ok (.aload_n 0, 1) := by decide +kernel
theorem dX4_copy_6 : decode cX4_copy 6 = .ok (.iconst 0, 1) := by decide +kernel
theorem dX4_copy_7 : decode cX4_copy 7 = .ok (.aload_n 1, 1) := by decide +kernel
theorem dX4_copy_8 : decode cX4_copy 8 = .ok (.iconst 0, 1) := by decide +kernel
theorem dX4_copy_9 : decode cX4_copy 9 = .ok (.bipush 65, 2) := by decide +kernel
theorem dX4_copy_11 : decode cX4_copy 11 = .ok (.invokestatic 80, 3) := by decide +kernel
theorem dX4_copy_14 : decode cX4_copy 14 = .ok (.aload_n 1, 1) := by decide +kernel
theorem dX4_copy_15 : decode cX4_copy 15 = .ok (.areturn, 1) := by decide +kernel
set_option maxRecDepth 20000 in
theorem ggX4_tried_X4_copy : GoodIn wsX4_tried wsX4_copy := goodIn_r _ [15, 5, 16, 17, 18, 19] (by decide +kernel) (by decide +kernel)
set_option maxRecDepth 20000 in
theorem gX4_tried_X4_copy : GoodIn wsX4_tried (va_wsS RX4 142 yX4_copy wsX4_copy) := goodIn_app (goodIn_of _ (by decide +kernel)) ggX4_tried_X4_copy
set_option maxRecDepth 20000 in
theorem ggX4_tried_X4_row : GoodIn wsX4_tried wsX4_row := goodIn_r _ [23, 24, 25, 26, 14, 27, 2, 7, 8, 11, 28, 29, 30, 31, 32, 33, 34, 35, 6, 3, 36, 37, 38, 39, 40, 41, 42, 43, 4, 44, 45, 46, 47, 48, 49, 50, 51, 52, 53, 54, 55, 56, 57, 58, 59, 9, 60, 61, 62, 63, 5, 64, 10, 65, 66, 67, 68, 69, 70, 71, 72, 73, 74, 75, 76, 77, 78, 79, 80, 81, 82, 83, 16, 17, 18, 19, 84, 85, 86, 87, 88, 89, 90, 91, 92, 93, 94, 95] (by decide +kernel) (by decide +kernel)
set_option maxRecDepth 20000 in
theorem gX4_tried_X4_row : GoodIn wsX4_tried (wsV RX4 116 RX4 yX4_row wsX4_row) := goodIn_app (goodIn_of _ (by decide +kernel)) ggX4_tried_X4_row
theorem dX4_tried_0 : decode cX4_tried 0 = .ok (.iconst 3, 1) := by decide +kernel
theorem dX4_tried_1 : decode cX4_tried 1 = .ok (.anewarray 141, 3) := by decide +kernel
theorem dX4_tried_4 : decode cX4_tried 4 = .ok (.dup, 1) := by decide +kernel
theorem dX4_tried_5 : decode cX4_tried 5 = .ok (.iconst 0, 1) := by decide +kernel
theorem dX4_tried_6 : decode cX4_tried 6 = .ok (.aload_n 0, 1) := by decide +kernel
theorem dX4_tried_7 : decode cX4_tried 7 = .ok (.getfield 9, 3) := by decide +kernel
theorem dX4_tried_10 : decode cX4_tried 10 = .ok (.aastore, 1) := by decide +kernel
theorem dX4_tried_11 : decode cX4_tried 11 = .ok (.dup, 1) := by decide +kernel
theorem dX4_tried_12 : decode cX4_tried 12 = .ok (.iconst 1, 1) := by decide +kernel
theorem dX4_tried_13 : decode cX4_tried 13 = .ok (.aload_n 0, 1) := by decide +kernel
theorem dX4_tried_14 : decode cX4_tried 14 = .ok (.getfield 13, 3) := by decide +kernel
theorem dX4_tried_17 : decode cX4_tried 17 = .ok (.aastore, 1) := by decide +kernel
theorem dX4_tried_18 : decode cX4_tried 18 = .ok (.dup, 1) := by decide +kernel
theorem dX4_tried_19 : decode cX4_tried 19 = .ok (.iconst 2, 1) := by decide +kernel
theorem dX4_tried_20 : decode cX4_tried 20 = .ok (.aload_n 0, 1) := by decide +kernel
theorem dX4_tried_21 : decode cX4_tried 21 = .ok (.getfield 16, 3) := by decide +kernel
theorem dX4_tried_24 : decode cX4_tried 24 = .ok (.aastore, 1) := by decide +kernel
theorem dX4_tried_25 : decode cX4_tried 25 = .ok (.astore 5, 2) := by decide +kernel
theorem dX4_tried_27 : decode cX4_tried 27 = .ok (.bipush 6, 2) := by decide +kernel
theorem dX4_tried_29 : decode cX4_tried 29 = .ok (.newarray .int, 2) := by decide +kernel
theorem dX4_tried_31 : decode cX4_tried 31 = .ok (.dup, 1) := by decide +kernel
theorem dX4_tried_32 : decode cX4_tried 32 = .ok (.iconst 0, 1) := by decide +kernel
theorem dX4_tried_33 : decode cX4_tried 33 = .ok (.aload_n 0, 1) := by decide +kernel
theorem dX4_tried_34 : decode cX4_tried 34 = .ok (.getfield 19, 3) := by decide +kernel
theorem dX4_tried_37 : decode cX4_tried 37 = .ok (.iastore, 1) := by decide +kernel
theorem dX4_tried_38 : decode cX4_tried 38 = .ok (.dup, 1) := by decide +kernel
theorem dX4_tried_39 : decode cX4_tried 39 = .ok (.iconst 1, 1) := by decide +kernel
theorem dX4_tried_40 : decode cX4_tried 40 = .ok (.aload_n 0, 1) := by decide +kernel
theorem dX4_tried_41 : decode cX4_tried 41 = .ok (.getfield 67, 3) := by decide +kernel
theorem dX4_tried_44 : decode cX4_tried 44 = .ok (.iastore, 1) := by decide +kernel
theorem dX4_tried_45 : decode cX4_tried 45 = .ok (.dup, 1) := by decide +kernel
theorem dX4_tried_46 : decode cX4_tried 46 = .ok (.iconst 2, 1) := by decide +kernel
theorem dX4_tried_47 : decode cX4_tried 47 = .ok (.aload_n 0, 1) := by decide +kernel
theorem dX4_tried_48 : decode cX4_tried 48 = .ok (.getfield 70, 3) := by decide +kernel
theorem dX4_tried_51 : decode cX4_tried 51 = .ok (.iastore, 1) := by decide +kernel
theorem dX4_tried_52 : decode cX4_tried 52 = .ok (.dup, 1) := by decide +kernel
theorem dX4_tried_53 : decode cX4_tried 53 = .ok (.iconst 3, 1) := by decide +kernel
theorem dX4_tried_54 : decode cX4_tried 54 = .ok (.aload_n 0, 1) := by decide +kernel
theorem dX4_tried_55 : decode cX4_tried 55 = .ok (.getfield 50, 3) := by decide +kernel
theorem dX4_tried_58 : decode cX4_tried 58 = .ok (.iastore, 1) := by decide +kernel
theorem dX4_tried_59 : decode cX4_tried 59 = .ok (.dup, 1) := by decide +kernel
theorem dX4_tried_60 : decode cX4_tried 60 = .ok (.iconst 4, 1) := by decide +kernel
theorem dX4_tried_61 : decode cX4_tried 61 = .ok (.aload_n 0, 1) := by decide +kernel
theorem dX4_tried_62 : decode cX4_tried 62 = .ok (.getfield 100, 3) := by decide +kernel
theorem dX4_tried_65 : decode cX4_tried 65 = .ok (.iastore, 1) := by decide +kernel
theorem dX4_tried_66 : decode cX4_tried 66 = .ok (.dup, 1) := by decide +kernel
theorem dX4_tried_67 : decode cX4_tried 67 = .ok (.iconst 5, 1) := by decide +kernel
theorem dX4_tried_68 : decode cX4_tried 68 = .ok (.aload_n 0, 1) := by decide +kernel
theorem dX4_tried_69 : decode cX4_tried 69 = .ok (.getfield 23, 3) := by decide +kernel
theorem dX4_tried_72 : decode cX4_tried 72 = .ok (.iastore, 1) := by decide +kernel
theorem dX4_tried_73 : decode cX4_tried 73 = .ok (.astore 6, 2) := by decide +kernel
theorem dX4_tried_75 : decode cX4_tried 75 = .ok (.aload_n 0, 1) := by decide +kernel
theorem dX4_tried_76 : decode cX4_tried 76 = .ok (.aload_n 0, 1) := by decide +kernel
theorem dX4_tried_77 : decode cX4_tried 77 = .ok (.getfield 9, 3) := by decide +kernel
theorem dX4_tried_80 : decode cX4_tried 80 = .ok (.invokestatic 142, 3) := by decide +kernel
theorem dX4_tried_83 : decode cX4_tried 83 = .ok (.putfield 9, 3) := by decide +kernel
theorem dX4_tried_86 : decode cX4_tried 86 = .ok (.aload_n 0, 1) := by decide +kernel
theorem dX4_tried_87 : decode cX4_tried 87 = .ok (.aload_n 0, 1) := by decide +kernel
theorem dX4_tried_88 : decode cX4_tried 88 = .ok (.getfield 13, 3) := by decide +kernel
theorem dX4_tried_91 : decode cX4_tried 91 = .ok (.invokestatic 142, 3) := by decide +kernel
theorem dX4_tried_94 : decode cX4_tried 94 = .ok (.putfield 13, 3) := by decide +kernel
theorem dX4_tried_97 : decode cX4_tried 97 = .ok (.aload_n 0, 1) := by decide +kernel
theorem dX4_tried_98 : decode cX4_tried 98 = .ok (.aload_n 0, 1) := by decide +kernel
theorem dX4_tried_99 : decode cX4_tried 99 = .ok (.getfield 16, 3) := by decide +kernel
theorem dX4_tried_102 : decode cX4_tried 102 = .ok (.invokestatic 142, 3) := by decide +kernel
theorem dX4_tried_105 : decode cX4_tried 105 = .ok (.putfield 16, 3) := by decide +kernel
theorem dX4_tried_108 : decode cX4_tried 108 = .ok (.aload_n 0, 1) := by decide +kernel
theorem dX4_tried_109 : decode cX4_tried 109 = .ok (.iload_n 1, 1) := by decide +kernel
theorem dX4_tried_110 : decode cX4_tried 110 = .ok (.putfield 23, 3) := by decide +kernel
theorem dX4_tried_113 : decode cX4_tried 113 = .ok (.aload_n 0, 1) := by decide +kernel
theorem dX4_tried_114 : decode cX4_tried 114 = .ok (.iload_n 2, 1) := by decide +kernel
theorem dX4_tried_115 : decode cX4_tried 115 = .ok (.iload_n 3, 1) := by decide +kernel
theorem dX4_tried_116 : decode cX4_tried 116 = .ok (.iload 4, 2) := by decide +kernel
theorem dX4_tried_118 : decode cX4_tried 118 = .ok (.invokevirtual 116, 3) := by decide +kernel
theorem dX4_tried_121 : decode cX4_tried 121 = .ok (.istore 7, 2) := by decide +kernel
theorem dX4_tried_123 : decode cX4_tried 123 = .ok (.aload_n 0, 1) := by decide +kernel
theorem dX4_tried_124 : decode cX4_tried 124 = .ok (.aload 5, 2) := by decide +kernel
theorem dX4_tried_126 : decode cX4_tried 126 = .ok (.iconst 0, 1) := by decide +kernel
theorem dX4_tried_127 : decode cX4_tried 127 = .ok (.aaload, 1) := by decide +kernel
theorem dX4_tried_128 : decode cX4_tried 128 = .ok (.putfield 9, 3) := by decide +kernel
theorem dX4_tried_131 : decode cX4_tried 131 = .ok (.aload_n 0, 1) := by decide +kernel
theorem dX4_tried_132 : decode cX4_tried 132 = .ok (.aload 5, 2) := by decide +kernel
theorem dX4_tried_134 : decode cX4_tried 134 = .ok (.iconst 1, 1) := by decide +kernel
theorem dX4_tried_135 : decode cX4_tried 135 = .ok (.aaload, 1) := by decide +kernel
theorem dX4_tried_136 : decode cX4_tried 136 = .ok (.putfield 13, 3) := by decide +kernel
theorem dX4_tried_139 : decode cX4_tried 139 = .ok (.aload_n 0, 1) := by decide +kernel
theorem dX4_tried_140 : decode cX4_tried 140 = .ok (.aload 5, 2) := by decide +kernel
theorem dX4_tried_142 : decode cX4_tried 142 = .ok (.iconst 2, 1) := by decide +kernel
theorem dX4_tried_143 : decode cX4_tried 143 = .ok (.aaload, 1) := by decide +kernel
theorem dX4_tried_144 : decode cX4_tried 144 = .ok (.putfield 16, 3) := by decide +kernel
theorem dX4_tried_147 : decode cX4_tried 147 = .ok (.aload_n 0, 1) := by decide +kernel
theorem dX4_tried_148 : decode cX4_tried 148 = .ok (.aload 6, 2) := by decide +kernel
theorem dX4_tried_150 : decode cX4_tried 150 = .ok (.iconst 0, 1) := by decide +kernel
theorem dX4_tried_151 : decode cX4_tried 151 = .ok (.iaload, 1) := by decide +kernel
theorem dX4_tried_152 : decode cX4_tried 152 = .ok (.putfield 19, 3) := by decide +kernel
theorem dX4_tried_155 : decode cX4_tried 155 = .ok (.aload_n 0, 1) := by decide +kernel
theorem dX4_tried_156 : decode cX4_tried 156 = .ok (.aload 6, 2) := by decide +kernel
theorem dX4_tried_158 : decode cX4_tried 158 = .ok (.iconst 1, 1) := by decide +kernel
theorem dX4_tried_159 : decode cX4_tried 159 = .ok (.iaload, 1) := by decide +kernel
theorem dX4_tried_160 : decode cX4_tried 160 = .ok (.putfield 67, 3) := by decide +kernel
theorem dX4_tried_163 : decode cX4_tried 163 = .ok (.aload_n 0, 1) := by decide +kernel
theorem dX4_tried_164 : decode cX4_tried 164 = .ok (.aload 6, 2) := by decide +kernel
theorem dX4_tried_166 : decode cX4_tried 166 = .ok (.iconst 2, 1) := by decide +kernel
theorem dX4_tried_167 : decode cX4_tried 167 = .ok (.iaload, 1) := by decide +kernel
theorem dX4_tried_168 : decode cX4_tried 168 = .ok (.putfield 70, 3) := by decide +kernel
theorem dX4_tried_171 : decode cX4_tried 171 = .ok (.aload_n 0, 1) := by decide +kernel
theorem dX4_tried_172 : decode cX4_tried 172 = .ok (.aload 6, 2) := by decide +kernel
theorem dX4_tried_174 : decode cX4_tried 174 = .ok (.iconst 3, 1) := by decide +kernel
theorem dX4_tried_175 : decode cX4_tried 175 = .ok (.iaload, 1) := by decide +kernel
theorem dX4_tried_176 : decode cX4_tried 176 = .ok (.putfield 50, 3) := by decide +kernel
theorem dX4_tried_179 : decode cX4_tried 179 = .ok (.aload_n 0, 1) := by decide +kernel
theorem dX4_tried_180 : decode cX4_tried 180 = .ok (.aload 6, 2) := by decide +kernel
theorem dX4_tried_182 : decode cX4_tried 182 = .ok (.iconst 4, 1) := by decide +kernel
theorem dX4_tried_183 : decode cX4_tried 183 = .ok (.iaload, 1) := by decide +kernel
theorem dX4_tried_184 : decode cX4_tried 184 = .ok (.putfield 100, 3) := by decide +kernel
theorem dX4_tried_187 : decode cX4_tried 187 = .ok (.aload_n 0, 1) := by decide +kernel
theorem dX4_tried_188 : decode cX4_tried 188 = .ok (.aload 6, 2) := by decide +kernel
theorem dX4_tried_190 : decode cX4_tried 190 = .ok (.iconst 5, 1) := by decide +kernel
theorem dX4_tried_191 : decode cX4_tried 191 = .ok (.iaload, 1) := by decide +kernel
theorem dX4_tried_192 : decode cX4_tried 192 = .ok (.putfield 23, 3) := by decide +kernel
theorem dX4_tried_195 : decode cX4_tried 195 = .ok (.iload 7, 2) := by decide +kernel
theorem dX4_tried_197 : decode cX4_tried 197 = .ok (.ireturn, 1) := by decide +kernel
set_option maxRecDepth 20000 in
theorem ggX4_would_X4_isRow : GoodIn wsX4_would wsX4_isRow := goodIn_r _ [6, 7, 8, 9, 5, 10, 11, 12, 13, 93, 94, 95, 96, 97, 98, 99, 100, 101, 102, 103, 104] (by decide +kernel) (by decide +kernel)
set_option maxRecDepth 20000 in
theorem gX4_would_X4_isRow : GoodIn wsX4_would (wsV RX4 113 RX4 yX4_isRow wsX4_isRow) := goodIn_app (goodIn_of _ (by decide +kernel)) ggX4_would_X4_isRow
set_option maxRecDepth 20000 in
theorem ggX4_would_X4_tried : GoodIn wsX4_would wsX4_tried := goodIn_r _ [17, 18, 19, 20, 21, 22, 23, 24, 25, 26, 27, 1, 28, 29, 5, 30, 31, 32, 33, 34, 35, 36, 37, 38, 39, 40, 41, 42, 43, 44, 45, 46, 47, 48, 49, 50, 51, 52, 53, 54, 55, 56, 57, 58, 59, 60, 61, 62, 63, 64, 65, 66, 67, 68, 69, 70, 71, 72, 73, 74, 75, 76, 77, 78, 79, 80, 81, 82, 83, 8, 9, 10, 11, 12, 13, 84, 85, 86, 87, 88, 89, 90, 91, 92, 93, 94, 95, 96, 97, 98, 99, 100, 101, 102, 103, 104] (by decide +kernel) (by decide +kernel)
set_option maxRecDepth 20000 in
theorem gX4_would_X4_tried : GoodIn wsX4_would (wsV RX4 146 RX4 yX4_tried wsX4_tried) := goodIn_app (goodIn_of _ (by decide +kernel)) ggX4_would_X4_tried
theorem dX4_would_0 : decode cX4_would 0 = .ok (.aload_n 0, 1) := by decide +kernel
theorem dX4_would_1 : decode cX4_would 1 = .ok (.iload_n 1, 1) := by decide +kernel
theorem dX4_would_2 : decode cX4_would 2 = .ok (.iload_n 2, 1) := by decide +kernel
theorem dX4_would_3 : decode cX4_would 3 = .ok (.iload_n 3, 1) := by decide +kernel
theorem dX4_would_4 : decode cX4_would 4 = .ok (.invokevirtual 113, 3) := by decide +kernel
theorem dX4_would_7 : decode cX4_would 7 = .ok (.ifCond .eq 17, 3) := by decide +kernel
theorem dX4_would_10 : decode cX4_would 10 = .ok (.aload_n 0, 1) := by decide +kernel
theorem dX4_would_11 : decode cX4_would 11 = .ok (.aload_n 0, 1) := by decide +kernel
theorem dX4_would_12 : decode cX4_would 12 = .ok (.getfield 23, 3) := by decide +kernel
theorem dX4_would_15 : decode cX4_would 15 = .ok (.iload_n 1, 1) := by decide +kernel
theorem dX4_would_16 : decode cX4_would 16 = .ok (.iload_n 2, 1) := by decide +kernel
theorem dX4_would_17 : decode cX4_would 17 = .ok (.iload_n 3, 1) := by decide +kernel
theorem dX4_would_18 : decode cX4_would 18 = .ok (.invokevirtual 146, 3) := by decide +kernel
theorem dX4_would_21 : decode cX4_would 21 = .ok (.goto 4, 3) := by decide +kernel
theorem dX4_would_24 : decode cX4_would 24 = .ok (.iconst 0, 1) := by decide +kernel
theorem dX4_would_25 : decode cX4_would 25 = .ok (.ireturn, 1) := by decide +kernel
set_option maxRecDepth 20000 in
theorem ggX4_bestLimit_X4_tried : GoodIn wsX4_bestLimit wsX4_tried := goodIn_r _ [5, 6, 7, 8, 9, 10, 11, 12, 13, 14, 15, 16, 17, 18, 4, 19, 20, 21, 22, 23, 24, 25, 26, 27, 28, 29, 30, 31, 32, 33, 34, 35, 36, 37, 38, 39, 40, 41, 42, 43, 44, 45, 46, 47, 48, 49, 50, 51, 52, 53, 54, 55, 56, 57, 58, 59, 60, 61, 62, 63, 64, 65, 66, 67, 68, 69, 70, 71, 72, 73, 74, 75, 76, 77, 78, 79, 80, 81, 82, 83, 84, 85, 86, 87, 88, 89, 90, 91, 92, 93, 94, 95, 96, 97, 98, 99] (by decide +kernel) (by decide +kernel)
set_option maxRecDepth 20000 in
theorem gX4_bestLimit_X4_tried : GoodIn wsX4_bestLimit (wsV RX4 146 RX4 yX4_tried wsX4_tried) := goodIn_app (goodIn_of _ (by decide +kernel)) ggX4_bestLimit_X4_tried
theorem dX4_bestLimit_0 : decode cX4_bestLimit 0 = .ok (.bipush 8, 2) := by decide +kernel
theorem dX4_bestLimit_2 : decode cX4_bestLimit 2 = .ok (.istore 4, 2) := by decide +kernel
theorem dX4_bestLimit_4 : decode cX4_bestLimit 4 = .ok (.aload_n 0, 1) := by decide +kernel
theorem dX4_bestLimit_5 : decode cX4_bestLimit 5 = .ok (.bipush 8, 2) := by decide +kernel
theorem dX4_bestLimit_7 : decode cX4_bestLimit 7 = .ok (.iload_n 1, 1) := by decide +kernel
theorem dX4_bestLimit_8 : decode cX4_bestLimit 8 = .ok (.iload_n 2, 1) := by decide +kernel
theorem dX4_bestLimit_9 : decode cX4_bestLimit 9 = .ok (.iload_n 3, 1) := by decide +kernel
theorem dX4_bestLimit_10 : decode cX4_bestLimit 10 = .ok (.invokevirtual 146, 3) := by decide +kernel
theorem dX4_bestLimit_13 : decode cX4_bestLimit 13 = .ok (.istore 5, 2) := by decide +kernel
theorem dX4_bestLimit_15 : decode cX4_bestLimit 15 = .ok (.bipush 16, 2) := by decide +kernel
theorem dX4_bestLimit_17 : decode cX4_bestLimit 17 = .ok (.istore 6, 2) := by decide +kernel
theorem dX4_bestLimit_19 : decode cX4_bestLimit 19 = .ok (.iload 6, 2) := by decide +kernel
theorem dX4_bestLimit_21 : decode cX4_bestLimit 21 = .ok (.sipush 128, 3) := by decide +kernel
theorem dX4_bestLimit_24 : decode cX4_bestLimit 24 = .ok (.if_icmp .gt 41, 3) := by decide +kernel
theorem dX4_bestLimit_27 : decode cX4_bestLimit 27 = .ok (.aload_n 0, 1) := by decide +kernel
theorem dX4_bestLimit_28 : decode cX4_bestLimit 28 = .ok (.iload 6, 2) := by decide +kernel
theorem dX4_bestLimit_30 : decode cX4_bestLimit 30 = .ok (.iload_n 1, 1) := by decide +kernel
theorem dX4_bestLimit_31 : decode cX4_bestLimit 31 = .ok (.iload_n 2, 1) := by decide +kernel
theorem dX4_bestLimit_32 : decode cX4_bestLimit 32 = .ok (.iload_n 3, 1) := by decide +kernel
theorem dX4_bestLimit_33 : decode cX4_bestLimit 33 = .ok (.invokevirtual 146, 3) := by decide +kernel
theorem dX4_bestLimit_36 : decode cX4_bestLimit 36 = .ok (.istore 7, 2) := by decide +kernel
theorem dX4_bestLimit_38 : decode cX4_bestLimit 38 = .ok (.iload 7, 2) := by decide +kernel
theorem dX4_bestLimit_40 : decode cX4_bestLimit 40 = .ok (.iload 5, 2) := by decide +kernel
theorem dX4_bestLimit_42 : decode cX4_bestLimit 42 = .ok (.if_icmp .lt 6, 3) := by decide +kernel
theorem dX4_bestLimit_45 : decode cX4_bestLimit 45 = .ok (.goto 11, 3) := by decide +kernel
theorem dX4_bestLimit_48 : decode cX4_bestLimit 48 = .ok (.iload 6, 2) := by decide +kernel
theorem dX4_bestLimit_50 : decode cX4_bestLimit 50 = .ok (.istore 4, 2) := by decide +kernel
theorem dX4_bestLimit_52 : decode cX4_bestLimit 52 = .ok (.iload 7, 2) := by decide +kernel
theorem dX4_bestLimit_54 : decode cX4_bestLimit 54 = .ok (.istore 5, 2) := by decide +kernel
theorem dX4_bestLimit_56 : decode cX4_bestLimit 56 = .ok (.iload 6, 2) := by decide +kernel
theorem dX4_bestLimit_58 : decode cX4_bestLimit 58 = .ok (.iconst 2, 1) := by decide +kernel
theorem dX4_bestLimit_59 : decode cX4_bestLimit 59 = .ok (.imul, 1) := by decide +kernel
theorem dX4_bestLimit_60 : decode cX4_bestLimit 60 = .ok (.istore 6, 2) := by decide +kernel
theorem dX4_bestLimit_62 : decode cX4_bestLimit 62 = .ok (.goto (-43), 3) := by decide +kernel
theorem dX4_bestLimit_65 : decode cX4_bestLimit 65 = .ok (.iload 4, 2) := by decide +kernel
theorem dX4_bestLimit_67 : decode cX4_bestLimit 67 = .ok (.ireturn, 1) := by decide +kernel
set_option maxRecDepth 20000 in
theorem ggX4_advise_X4_isRow : GoodIn wsX4_advise wsX4_isRow := goodIn_r _ [5, 6, 7, 8, 4, 9, 10, 11, 12, 97, 98, 99, 100, 101, 102, 103, 104, 105, 106, 107, 108] (by decide +kernel) (by decide +kernel)
set_option maxRecDepth 20000 in
theorem gX4_advise_X4_isRow : GoodIn wsX4_advise (wsV RX4 113 RX4 yX4_isRow wsX4_isRow) := goodIn_app (goodIn_of _ (by decide +kernel)) ggX4_advise_X4_isRow
set_option maxRecDepth 20000 in
theorem ggX4_advise_X4_bestLimit : GoodIn wsX4_advise wsX4_bestLimit := goodIn_r _ [16, 17, 18, 19, 4, 20, 21, 22, 23, 24, 25, 26, 27, 28, 29, 30, 31, 32, 33, 34, 35, 36, 37, 38, 39, 40, 41, 42, 43, 44, 45, 46, 47, 48, 49, 50, 51, 52, 53, 54, 55, 56, 57, 58, 59, 60, 61, 62, 63, 64, 65, 66, 67, 68, 69, 70, 71, 72, 73, 74, 75, 76, 77, 78, 79, 80, 81, 82, 83, 84, 85, 86, 87, 7, 8, 9, 10, 11, 12, 88, 89, 90, 91, 92, 93, 94, 95, 96, 97, 98, 99, 100, 101, 102, 103, 104, 105, 106, 107, 108] (by decide +kernel) (by decide +kernel)
set_option maxRecDepth 20000 in
theorem gX4_advise_X4_bestLimit : GoodIn wsX4_advise (wsV RX4 150 RX4 yX4_bestLimit wsX4_bestLimit) := goodIn_app (goodIn_of _ (by decide +kernel)) ggX4_advise_X4_bestLimit
theorem dX4_advise_0 : decode cX4_advise 0 = .ok (.aload_n 0, 1) := by decide +kernel
theorem dX4_advise_1 : decode cX4_advise 1 = .ok (.iload_n 1, 1) := by decide +kernel
theorem dX4_advise_2 : decode cX4_advise 2 = .ok (.iload_n 2, 1) := by decide +kernel
theorem dX4_advise_3 : decode cX4_advise 3 = .ok (.iload_n 3, 1) := by decide +kernel
theorem dX4_advise_4 : decode cX4_advise 4 = .ok (.invokevirtual 113, 3) := by decide +kernel
theorem dX4_advise_7 : decode cX4_advise 7 = .ok (.ifCond .eq 13, 3) := by decide +kernel
theorem dX4_advise_10 : decode cX4_advise 10 = .ok (.aload_n 0, 1) := by decide +kernel
theorem dX4_advise_11 : decode cX4_advise 11 = .ok (.iload_n 1, 1) := by decide +kernel
theorem dX4_advise_12 : decode cX4_advise 12 = .ok (.iload_n 2, 1) := by decide +kernel
theorem dX4_advise_13 : decode cX4_advise 13 = .ok (.iload_n 3, 1) := by decide +kernel
theorem dX4_advise_14 : decode cX4_advise 14 = .ok (.invokevirtual 150, 3) := by decide +kernel
theorem dX4_advise_17 : decode cX4_advise 17 = .ok (.goto 4, 3) := by decide +kernel
theorem dX4_advise_20 : decode cX4_advise 20 = .ok (.iconst 0, 1) := by decide +kernel
theorem dX4_advise_21 : decode cX4_advise 21 = .ok (.ireturn, 1) := by decide +kernel
theorem dX4_saved_0 : decode cX4_saved 0 = .ok (.aload_n 0, 1) := by decide +kernel
theorem dX4_saved_1 : decode cX4_saved 1 = .ok (.iconst 0, 1) := by decide +kernel
theorem dX4_saved_2 : decode cX4_saved 2 = .ok (.putfield 33, 3) := by decide +kernel
theorem dX4_saved_5 : decode cX4_saved 5 = .ok (.iconst 5, 1) := by decide +kernel
theorem dX4_saved_6 : decode cX4_saved 6 = .ok (.aload_n 0, 1) := by decide +kernel
theorem dX4_saved_7 : decode cX4_saved 7 = .ok (.getfield 67, 3) := by decide +kernel
theorem dX4_saved_10 : decode cX4_saved 10 = .ok (.imul, 1) := by decide +kernel
theorem dX4_saved_11 : decode cX4_saved 11 = .ok (.aload_n 0, 1) := by decide +kernel
theorem dX4_saved_12 : decode cX4_saved 12 = .ok (.getfield 70, 3) := by decide +kernel
theorem dX4_saved_15 : decode cX4_saved 15 = .ok (.isub, 1) := by decide +kernel
theorem dX4_saved_16 : decode cX4_saved 16 = .ok (.ireturn, 1) := by decide +kernel
theorem dX4_mean_0 : decode cX4_mean 0 = .ok (.aload_n 0, 1) := by decide +kernel
theorem dX4_mean_1 : decode cX4_mean 1 = .ok (.iconst 0, 1) := by decide +kernel
theorem dX4_mean_2 : decode cX4_mean 2 = .ok (.putfield 33, 3) := by decide +kernel
theorem dX4_mean_5 : decode cX4_mean 5 = .ok (.aload_n 0, 1) := by decide +kernel
theorem dX4_mean_6 : decode cX4_mean 6 = .ok (.getfield 67, 3) := by decide +kernel
theorem dX4_mean_9 : decode cX4_mean 9 = .ok (.ifCond .ne 7, 3) := by decide +kernel
theorem dX4_mean_12 : decode cX4_mean 12 = .ok (.dconst 0, 1) := by decide +kernel
theorem dX4_mean_13 : decode cX4_mean 13 = .ok (.goto 14, 3) := by decide +kernel
theorem dX4_mean_16 : decode cX4_mean 16 = .ok (.aload_n 0, 1) := by decide +kernel
theorem dX4_mean_17 : decode cX4_mean 17 = .ok (.getfield 70, 3) := by decide +kernel
theorem dX4_mean_20 : decode cX4_mean 20 = .ok (.i2d, 1) := by decide +kernel
theorem dX4_mean_21 : decode cX4_mean 21 = .ok (.aload_n 0, 1) := by decide +kernel
theorem dX4_mean_22 : decode cX4_mean 22 = .ok (.getfield 67, 3) := by decide +kernel
theorem dX4_mean_25 : decode cX4_mean 25 = .ok (.i2d, 1) := by decide +kernel
theorem dX4_mean_26 : decode cX4_mean 26 = .ok (.ddiv, 1) := by decide +kernel
theorem dX4_mean_27 : decode cX4_mean 27 = .ok (.dreturn, 1) := by decide +kernel
set_option maxRecDepth 20000 in
theorem ggX4_digest_X4_counted : GoodIn wsX4_digest wsX4_counted := goodIn_r _ [9, 10, 4, 11, 12, 13, 14, 15, 16, 17, 18, 19, 8, 20, 43, 44, 45, 46, 47, 48, 49, 50, 51, 52, 53, 54] (by decide +kernel) (by decide +kernel)
set_option maxRecDepth 20000 in
theorem gX4_digest_X4_counted : GoodIn wsX4_digest (wsV RX4 135 RX4 yX4_counted wsX4_counted) := goodIn_app (goodIn_of _ (by decide +kernel)) ggX4_digest_X4_counted
set_option maxRecDepth 20000 in
theorem ggX4_digest_X4_nodeTold : GoodIn wsX4_digest wsX4_nodeTold := goodIn_r _ [24, 11, 25, 26, 27, 28, 29, 8, 30, 4, 43, 44, 45, 46, 47, 48, 49, 50, 51, 52, 53, 54] (by decide +kernel) (by decide +kernel)
set_option maxRecDepth 20000 in
theorem gX4_digest_X4_nodeTold : GoodIn wsX4_digest (wsV RX4 132 RX4 yX4_nodeTold wsX4_nodeTold) := goodIn_app (goodIn_of _ (by decide +kernel)) ggX4_digest_X4_nodeTold
set_option maxRecDepth 20000 in
theorem ggX4_digest_X4_bitsOf : GoodIn wsX4_digest wsX4_bitsOf := goodIn_r _ [34, 35, 36, 37, 8, 38, 4, 25, 39, 40, 41, 42, 27, 28, 29, 30, 26, 43, 44, 45, 46, 47, 48, 49, 50, 51, 52, 53, 54] (by decide +kernel) (by decide +kernel)
set_option maxRecDepth 20000 in
theorem gX4_digest_X4_bitsOf : GoodIn wsX4_digest (wsV RX4 53 RX4 yX4_bitsOf wsX4_bitsOf) := goodIn_app (goodIn_of _ (by decide +kernel)) ggX4_digest_X4_bitsOf
theorem dX4_digest_0 : decode cX4_digest 0 = .ok (.aload_n 0, 1) := by decide +kernel
theorem dX4_digest_1 : decode cX4_digest 1 = .ok (.iconst 0, 1) := by decide +kernel
theorem dX4_digest_2 : decode cX4_digest 2 = .ok (.putfield 33, 3) := by decide +kernel
theorem dX4_digest_5 : decode cX4_digest 5 = .ok (.ldc2_w 153, 3) := by decide +kernel
theorem dX4_digest_8 : decode cX4_digest 8 = .ok (.lstore_n 1, 1) := by decide +kernel
theorem dX4_digest_9 : decode cX4_digest 9 = .ok (.iconst 0, 1) := by decide +kernel
theorem dX4_digest_10 : decode cX4_digest 10 = .ok (.istore_n 3, 1) := by decide +kernel
theorem dX4_digest_11 : decode cX4_digest 11 = .ok (.iload_n 3, 1) := by decide +kernel
theorem dX4_digest_12 : decode cX4_digest 12 = .ok (.bipush 7, 2) := by decide +kernel
theorem dX4_digest_14 : decode cX4_digest 14 = .ok (.if_icmp .gt 22, 3) := by decide +kernel
theorem dX4_digest_17 : decode cX4_digest 17 = .ok (.lload_n 1, 1) := by decide +kernel
theorem dX4_digest_18 : decode cX4_digest 18 = .ok (.ldc2_w 155, 3) := by decide +kernel
theorem dX4_digest_21 : decode cX4_digest 21 = .ok (.lmul, 1) := by decide +kernel
theorem dX4_digest_22 : decode cX4_digest 22 = .ok (.aload_n 0, 1) := by decide +kernel
theorem dX4_digest_23 : decode cX4_digest 23 = .ok (.iload_n 3, 1) := by decide +kernel
theorem dX4_digest_24 : decode cX4_digest 24 = .ok (.invokevirtual 135, 3) := by decide +kernel
theorem dX4_digest_27 : decode cX4_digest 27 = .ok (.i2l, 1) := by decide +kernel
theorem dX4_digest_28 : decode cX4_digest 28 = .ok (.ladd, 1) := by decide +kernel
theorem dX4_digest_29 : decode cX4_digest 29 = .ok (.lstore_n 1, 1) := by decide +kernel
theorem dX4_digest_30 : decode cX4_digest 30 = .ok (.iinc 3 1, 3) := by decide +kernel
theorem dX4_digest_33 : decode cX4_digest 33 = .ok (.goto (-22), 3) := by decide +kernel
theorem dX4_digest_36 : decode cX4_digest 36 = .ok (.iconst 0, 1) := by decide +kernel
theorem dX4_digest_37 : decode cX4_digest 37 = .ok (.istore_n 3, 1) := by decide +kernel
theorem dX4_digest_38 : decode cX4_digest 38 = .ok (.iload_n 3, 1) := by decide +kernel
theorem dX4_digest_39 : decode cX4_digest 39 = .ok (.aload_n 0, 1) := by decide +kernel
theorem dX4_digest_40 : decode cX4_digest 40 = .ok (.getfield 19, 3) := by decide +kernel
theorem dX4_digest_43 : decode cX4_digest 43 = .ok (.if_icmp .ge 39, 3) := by decide +kernel
theorem dX4_digest_46 : decode cX4_digest 46 = .ok (.iconst 0, 1) := by decide +kernel
theorem dX4_digest_47 : decode cX4_digest 47 = .ok (.istore 4, 2) := by decide +kernel
theorem dX4_digest_49 : decode cX4_digest 49 = .ok (.iload 4, 2) := by decide +kernel
theorem dX4_digest_51 : decode cX4_digest 51 = .ok (.iconst 3, 1) := by decide +kernel
theorem dX4_digest_52 : decode cX4_digest 52 = .ok (.if_icmp .gt 24, 3) := by decide +kernel
theorem dX4_digest_55 : decode cX4_digest 55 = .ok (.lload_n 1, 1) := by decide +kernel
theorem dX4_digest_56 : decode cX4_digest 56 = .ok (.ldc2_w 155, 3) := by decide +kernel
theorem dX4_digest_59 : decode cX4_digest 59 = .ok (.lmul, 1) := by decide +kernel
theorem dX4_digest_60 : decode cX4_digest 60 = .ok (.aload_n 0, 1) := by decide +kernel
theorem dX4_digest_61 : decode cX4_digest 61 = .ok (.iload_n 3, 1) := by decide +kernel
theorem dX4_digest_62 : decode cX4_digest 62 = .ok (.iload 4, 2) := by decide +kernel
theorem dX4_digest_64 : decode cX4_digest 64 = .ok (.invokevirtual 132, 3) := by decide +kernel
theorem dX4_digest_67 : decode cX4_digest 67 = .ok (.i2l, 1) := by decide +kernel
theorem dX4_digest_68 : decode cX4_digest 68 = .ok (.ladd, 1) := by decide +kernel
theorem dX4_digest_69 : decode cX4_digest 69 = .ok (.lstore_n 1, 1) := by decide +kernel
theorem dX4_digest_70 : decode cX4_digest 70 = .ok (.iinc 4 1, 3) := by decide +kernel
theorem dX4_digest_73 : decode cX4_digest 73 = .ok (.goto (-24), 3) := by decide +kernel
theorem dX4_digest_76 : decode cX4_digest 76 = .ok (.iinc 3 1, 3) := by decide +kernel
theorem dX4_digest_79 : decode cX4_digest 79 = .ok (.goto (-41), 3) := by decide +kernel
theorem dX4_digest_82 : decode cX4_digest 82 = .ok (.iconst 0, 1) := by decide +kernel
theorem dX4_digest_83 : decode cX4_digest 83 = .ok (.istore_n 3, 1) := by decide +kernel
theorem dX4_digest_84 : decode cX4_digest 84 = .ok (.iload_n 3, 1) := by decide +kernel
theorem dX4_digest_85 : decode cX4_digest 85 = .ok (.bipush 32, 2) := by decide +kernel
theorem dX4_digest_87 : decode cX4_digest 87 = .ok (.if_icmp .ge 22, 3) := by decide +kernel
theorem dX4_digest_90 : decode cX4_digest 90 = .ok (.lload_n 1, 1) := by decide +kernel
theorem dX4_digest_91 : decode cX4_digest 91 = .ok (.ldc2_w 155, 3) := by decide +kernel
theorem dX4_digest_94 : decode cX4_digest 94 = .ok (.lmul, 1) := by decide +kernel
theorem dX4_digest_95 : decode cX4_digest 95 = .ok (.aload_n 0, 1) := by decide +kernel
theorem dX4_digest_96 : decode cX4_digest 96 = .ok (.iload_n 3, 1) := by decide +kernel
theorem dX4_digest_97 : decode cX4_digest 97 = .ok (.invokevirtual 53, 3) := by decide +kernel
theorem dX4_digest_100 : decode cX4_digest 100 = .ok (.i2l, 1) := by decide +kernel
theorem dX4_digest_101 : decode cX4_digest 101 = .ok (.ladd, 1) := by decide +kernel
theorem dX4_digest_102 : decode cX4_digest 102 = .ok (.lstore_n 1, 1) := by decide +kernel
theorem dX4_digest_103 : decode cX4_digest 103 = .ok (.iinc 3 1, 3) := by decide +kernel
theorem dX4_digest_106 : decode cX4_digest 106 = .ok (.goto (-22), 3) := by decide +kernel
theorem dX4_digest_109 : decode cX4_digest 109 = .ok (.lload_n 1, 1) := by decide +kernel
theorem dX4_digest_110 : decode cX4_digest 110 = .ok (.lreturn, 1) := by decide +kernel
theorem dJ7_fill_53178_0 : decode cJ7_fill_53178 0 = .ok (.iconst 0, 1) := by decide +kernel
theorem dJ7_fill_53178_1 : decode cJ7_fill_53178 1 = .ok (.istore_n 2, 1) := by decide +kernel
theorem dJ7_fill_53178_2 : decode cJ7_fill_53178 2 = .ok (.aload_n 0, 1) := by decide +kernel
theorem dJ7_fill_53178_3 : decode cJ7_fill_53178 3 = .ok (.arraylength, 1) := by decide +kernel
theorem dJ7_fill_53178_4 : decode cJ7_fill_53178 4 = .ok (.istore_n 3, 1) := by decide +kernel
theorem dJ7_fill_53178_5 : decode cJ7_fill_53178 5 = .ok (.iload_n 2, 1) := by decide +kernel
theorem dJ7_fill_53178_6 : decode cJ7_fill_53178 6 = .ok (.iload_n 3, 1) := by decide +kernel
theorem dJ7_fill_53178_7 : decode cJ7_fill_53178 7 = .ok (.if_icmp .ge 13, 3) := by decide +kernel
theorem dJ7_fill_53178_10 : decode cJ7_fill_53178 10 = .ok (.aload_n 0, 1) := by decide +kernel
theorem dJ7_fill_53178_11 : decode cJ7_fill_53178 11 = .ok (.iload_n 2, 1) := by decide +kernel
theorem dJ7_fill_53178_12 : decode cJ7_fill_53178 12 = .ok (.iload_n 1, 1) := by decide +kernel
theorem dJ7_fill_53178_13 : decode cJ7_fill_53178 13 = .ok (.iastore, 1) := by decide +kernel
theorem dJ7_fill_53178_14 : decode cJ7_fill_53178 14 = .ok (.iinc 2 1, 3) := by decide +kernel
theorem dJ7_fill_53178_17 : decode cJ7_fill_53178 17 = .ok (.goto (-12), 3) := by decide +kernel
theorem dJ7_fill_53178_20 : decode cJ7_fill_53178 20 = .ok (.return_, 1) := by decide +kernel
