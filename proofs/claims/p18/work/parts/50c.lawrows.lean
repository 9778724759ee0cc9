theorem dL_below_0 : decode cL_below 0 = .ok (.iload_n 0, 1) := by decide +kernel
theorem dL_below_1 : decode cL_below 1 = .ok (.ldc 7, 2) := by decide +kernel
theorem dL_below_3 : decode cL_below 3 = .ok (.iand, 1) := by decide +kernel
theorem dL_below_4 : decode cL_below 4 = .ok (.iload_n 1, 1) := by decide +kernel
theorem dL_below_5 : decode cL_below 5 = .ok (.irem, 1) := by decide +kernel
theorem dL_below_6 : decode cL_below 6 = .ok (.ireturn, 1) := by decide +kernel
theorem dL_cell_0 : decode cL_cell 0 = .ok (.iload_n 1, 1) := by decide +kernel
theorem dL_cell_1 : decode cL_cell 1 = .ok (.aload_n 0, 1) := by decide +kernel
theorem dL_cell_2 : decode cL_cell 2 = .ok (.arraylength, 1) := by decide +kernel
theorem dL_cell_3 : decode cL_cell 3 = .ok (.if_icmp .ge 9, 3) := by decide +kernel
theorem dL_cell_6 : decode cL_cell 6 = .ok (.aload_n 0, 1) := by decide +kernel
theorem dL_cell_7 : decode cL_cell 7 = .ok (.iload_n 1, 1) := by decide +kernel
theorem dL_cell_8 : decode cL_cell 8 = .ok (.iaload, 1) := by decide +kernel
theorem dL_cell_9 : decode cL_cell 9 = .ok (.goto 9, 3) := by decide +kernel
theorem dL_cell_12 : decode cL_cell 12 = .ok (.ldc 8, 2) := by decide +kernel
theorem dL_cell_14 : decode cL_cell 14 = .ok (.iload_n 1, 1) := by decide +kernel
theorem dL_cell_15 : decode cL_cell 15 = .ok (.iconst 3, 1) := by decide +kernel
theorem dL_cell_16 : decode cL_cell 16 = .ok (.iadd, 1) := by decide +kernel
theorem dL_cell_17 : decode cL_cell 17 = .ok (.imul, 1) := by decide +kernel
theorem dL_cell_18 : decode cL_cell 18 = .ok (.ireturn, 1) := by decide +kernel
set_option maxRecDepth 20000 in
theorem ggL_act_L_below : GoodIn wsL_act wsL_below := goodIn_r _ [5, 6] (by decide +kernel) (by decide +kernel)
set_option maxRecDepth 20000 in
theorem gL_act_L_below : GoodIn wsL_act (va_wsS RL 9 yL_below wsL_below) := goodIn_app (goodIn_of _ (by decide +kernel)) ggL_act_L_below
set_option maxRecDepth 20000 in
theorem ggL_act_X3_useAll : GoodIn wsL_act wsX3_useAll := goodIn_ca (goodIn_ca (goodIn_r _ [11, 12, 13, 14, 10, 15, 16, 17, 18, 19, 20, 21, 22, 23, 24, 25, 26, 27, 28, 29, 30, 31, 32, 33, 34, 35, 36, 37, 38, 39, 40, 41, 42, 43, 44, 45, 46, 47, 48, 49, 50, 51, 52, 53, 54, 55, 56, 57, 58, 59, 60, 61, 62, 63, 64, 65, 66, 67, 68, 69, 70, 71, 72, 73, 74, 75, 76, 77, 78, 79, 80, 81, 82, 83, 84, 85, 86, 87, 88, 89, 90, 91, 92, 93, 94, 95, 96, 97, 98, 99, 100, 101, 102, 103, 104, 105, 106, 107, 108, 204, 205, 206, 207, 208, 209, 210, 211, 212, 213, 214, 215, 216, 217, 218, 219, 220, 221, 222] (by decide +kernel) (by decide +kernel)) (goodIn_sub (fun _ h => List.mem_cons_of_mem _ (List.mem_append_left _ (List.mem_append_left _ (List.mem_append_right _ h)))) (by decide +kernel))) (goodIn_sub (fun _ h => List.mem_cons_of_mem _ (List.mem_append_left _ (List.mem_append_right _ h))) (by decide +kernel))
set_option maxRecDepth 20000 in
theorem gL_act_X3_useAll : GoodIn wsL_act (wsV RL 15 RX3 yX3_useAll wsX3_useAll) := goodIn_app (goodIn_of _ (by decide +kernel)) ggL_act_X3_useAll
set_option maxRecDepth 20000 in
theorem ggL_act_X4_useAll : GoodIn wsL_act wsX4_useAll := goodIn_r _ [113, 114, 115, 116, 112, 117, 118, 119, 120, 121, 122, 123, 124, 125, 126, 127, 128, 129, 130, 131, 132, 133, 134, 135, 136, 137, 138, 139, 140, 141, 142, 143, 144, 145, 146, 147, 148, 149, 150, 151, 152, 153, 154, 155, 156, 157, 158, 159, 160, 161, 162, 163, 164, 165, 166, 167, 168, 169, 170, 194, 195, 196, 197, 198, 199, 200, 201, 202, 203] (by decide +kernel) (by decide +kernel)
set_option maxRecDepth 20000 in
theorem gL_act_X4_useAll : GoodIn wsL_act (wsV RL 21 RX4 yX4_useAll wsX4_useAll) := goodIn_app (goodIn_of _ (by decide +kernel)) ggL_act_X4_useAll
set_option maxRecDepth 20000 in
theorem ggL_act_X3_setLimit : GoodIn wsL_act wsX3_setLimit := goodIn_ca (goodIn_r _ [174, 16, 17, 12, 204, 205, 206, 207, 208, 209] (by decide +kernel) (by decide +kernel)) (goodIn_sub (fun _ h => List.mem_cons_of_mem _ (List.mem_append_left _ (List.mem_append_left _ (List.mem_append_right _ h)))) (by decide +kernel))
set_option maxRecDepth 20000 in
theorem gL_act_X3_setLimit : GoodIn wsL_act (wsV RL 28 RX3 yX3_setLimit wsX3_setLimit) := goodIn_app (goodIn_of _ (by decide +kernel)) ggL_act_X3_setLimit
set_option maxRecDepth 20000 in
theorem ggL_act_X4_known : GoodIn wsL_act wsX4_known := goodIn_r _ [178, 121, 194, 195, 196, 197, 198, 199, 200, 201, 202, 203] (by decide +kernel) (by decide +kernel)
set_option maxRecDepth 20000 in
theorem gL_act_X4_known : GoodIn wsL_act (wsV RL 32 RX4 yX4_known wsX4_known) := goodIn_app (goodIn_of _ (by decide +kernel)) ggL_act_X4_known
set_option maxRecDepth 20000 in
theorem ggL_act_X3_wear : GoodIn wsL_act wsX3_wear := goodIn_ca (goodIn_r _ [182, 183, 184, 12, 185, 40, 186, 187, 53, 78, 79, 80, 81, 82, 83, 84, 85, 86, 58, 43, 87, 88, 89, 90, 91, 92, 93, 94, 95, 96, 97, 61, 10, 62, 98, 39, 41, 42, 44, 45, 99, 100, 101, 102, 103, 104, 105, 54, 55, 56, 57, 59, 60, 49, 106, 107, 108, 204, 205, 206, 207, 208, 209, 210, 211, 212, 213, 214, 215, 216, 217, 218, 219, 220, 221, 222] (by decide +kernel) (by decide +kernel)) (goodIn_sub (fun _ h => List.mem_cons_of_mem _ (List.mem_append_right _ h)) (by decide +kernel))
set_option maxRecDepth 20000 in
theorem gL_act_X3_wear : GoodIn wsL_act (wsV RL 36 RX3 yX3_wear wsX3_wear) := goodIn_app (goodIn_of _ (by decide +kernel)) ggL_act_X3_wear
set_option maxRecDepth 20000 in
theorem ggL_act_X4_wear : GoodIn wsL_act wsX4_wear := goodIn_r _ [162, 118, 121, 119, 122, 123, 149, 120, 163, 139, 140, 141, 112, 142, 143, 144, 145, 146, 147, 148, 164, 165, 166, 167, 168, 169, 170, 194, 195, 196, 197, 198, 199, 200, 201, 202, 203] (by decide +kernel) (by decide +kernel)
set_option maxRecDepth 20000 in
theorem gL_act_X4_wear : GoodIn wsL_act (wsV RL 39 RX4 yX4_wear wsX4_wear) := goodIn_app (goodIn_of _ (by decide +kernel)) ggL_act_X4_wear
set_option maxRecDepth 20000 in
theorem ggL_act_X3_use : GoodIn wsL_act wsX3_use := goodIn_ca (goodIn_r _ [192, 12, 18, 19, 10, 20, 21, 22, 28, 24, 29, 30, 31, 32, 33, 34, 35, 36, 37, 38, 39, 40, 41, 42, 43, 44, 45, 46, 47, 48, 49, 50, 51, 52, 53, 54, 55, 56, 57, 58, 59, 60, 61, 62, 63, 64, 65, 66, 67, 68, 69, 70, 71, 72, 73, 74, 75, 76, 77, 78, 79, 80, 81, 82, 83, 84, 85, 86, 87, 88, 89, 90, 91, 92, 93, 94, 95, 96, 97, 98, 99, 100, 101, 102, 103, 104, 105, 106, 107, 108, 204, 205, 206, 207, 208, 209, 210, 211, 212, 213, 214, 215, 216, 217, 218, 219, 220, 221, 222] (by decide +kernel) (by decide +kernel)) (goodIn_sub (fun _ h => List.mem_cons_of_mem _ (List.mem_append_left _ (List.mem_append_right _ h))) (by decide +kernel))
set_option maxRecDepth 20000 in
theorem gL_act_X3_use : GoodIn wsL_act (wsV RL 40 RX3 yX3_use wsX3_use) := goodIn_app (goodIn_of _ (by decide +kernel)) ggL_act_X3_use
set_option maxRecDepth 20000 in
theorem ggL_act_X4_use : GoodIn wsL_act wsX4_use := goodIn_r _ [117, 118, 119, 120, 121, 122, 123, 124, 125, 126, 127, 128, 129, 112, 130, 131, 132, 133, 134, 135, 136, 137, 138, 139, 140, 141, 142, 143, 144, 145, 146, 147, 148, 149, 150, 151, 152, 153, 154, 155, 156, 157, 158, 159, 160, 161, 162, 163, 164, 165, 166, 167, 168, 169, 170, 194, 195, 196, 197, 198, 199, 200, 201, 202, 203] (by decide +kernel) (by decide +kernel)
set_option maxRecDepth 20000 in
theorem gL_act_X4_use : GoodIn wsL_act (wsV RL 43 RX4 yX4_use wsX4_use) := goodIn_app (goodIn_of _ (by decide +kernel)) ggL_act_X4_use
theorem dL_act_0 : decode cL_act 0 = .ok (.iload_n 2, 1) := by decide +kernel
theorem dL_act_1 : decode cL_act 1 = .ok (.iconst 4, 1) := by decide +kernel
theorem dL_act_2 : decode cL_act 2 = .ok (.ishr, 1) := by decide +kernel
theorem dL_act_3 : decode cL_act 3 = .ok (.iload_n 2, 1) := by decide +kernel
theorem dL_act_4 : decode cL_act 4 = .ok (.bipush 10, 2) := by decide +kernel
theorem dL_act_6 : decode cL_act 6 = .ok (.ishr, 1) := by decide +kernel
theorem dL_act_7 : decode cL_act 7 = .ok (.iconst 3, 1) := by decide +kernel
theorem dL_act_8 : decode cL_act 8 = .ok (.invokestatic 9, 3) := by decide +kernel
theorem dL_act_11 : decode cL_act 11 = .ok (.ifCond .ne 8, 3) := by decide +kernel
theorem dL_act_14 : decode cL_act 14 = .ok (.bipush 32, 2) := by decide +kernel
theorem dL_act_16 : decode cL_act 16 = .ok (.goto 4, 3) := by decide +kernel
theorem dL_act_19 : decode cL_act 19 = .ok (.iconst 5, 1) := by decide +kernel
theorem dL_act_20 : decode cL_act 20 = .ok (.invokestatic 9, 3) := by decide +kernel
theorem dL_act_23 : decode cL_act 23 = .ok (.istore_n 3, 1) := by decide +kernel
theorem dL_act_24 : decode cL_act 24 = .ok (.iload_n 2, 1) := by decide +kernel
theorem dL_act_25 : decode cL_act 25 = .ok (.bipush 12, 2) := by decide +kernel
theorem dL_act_27 : decode cL_act 27 = .ok (.invokestatic 9, 3) := by decide +kernel
theorem dL_act_30 : decode cL_act 30 = .ok (.tableswitch 190 0 2 #[26, 76, 153], 26) := by decide +kernel
theorem dL_act_56 : decode cL_act 56 = .ok (.iload_n 2, 1) := by decide +kernel
theorem dL_act_57 : decode cL_act 57 = .ok (.iconst 5, 1) := by decide +kernel
theorem dL_act_58 : decode cL_act 58 = .ok (.ishr, 1) := by decide +kernel
theorem dL_act_59 : decode cL_act 59 = .ok (.bipush 32, 2) := by decide +kernel
theorem dL_act_61 : decode cL_act 61 = .ok (.invokestatic 9, 3) := by decide +kernel
theorem dL_act_64 : decode cL_act 64 = .ok (.istore 4, 2) := by decide +kernel
theorem dL_act_66 : decode cL_act 66 = .ok (.iconst 1, 1) := by decide +kernel
theorem dL_act_67 : decode cL_act 67 = .ok (.iload_n 2, 1) := by decide +kernel
theorem dL_act_68 : decode cL_act 68 = .ok (.bipush 8, 2) := by decide +kernel
theorem dL_act_70 : decode cL_act 70 = .ok (.ishr, 1) := by decide +kernel
theorem dL_act_71 : decode cL_act 71 = .ok (.bipush 12, 2) := by decide +kernel
theorem dL_act_73 : decode cL_act 73 = .ok (.invokestatic 9, 3) := by decide +kernel
theorem dL_act_76 : decode cL_act 76 = .ok (.iadd, 1) := by decide +kernel
theorem dL_act_77 : decode cL_act 77 = .ok (.istore 5, 2) := by decide +kernel
theorem dL_act_79 : decode cL_act 79 = .ok (.aload_n 0, 1) := by decide +kernel
theorem dL_act_80 : decode cL_act 80 = .ok (.iload_n 3, 1) := by decide +kernel
theorem dL_act_81 : decode cL_act 81 = .ok (.iload 4, 2) := by decide +kernel
theorem dL_act_83 : decode cL_act 83 = .ok (.iload 5, 2) := by decide +kernel
theorem dL_act_85 : decode cL_act 85 = .ok (.invokevirtual 15, 3) := by decide +kernel
theorem dL_act_88 : decode cL_act 88 = .ok (.aload_n 1, 1) := by decide +kernel
theorem dL_act_89 : decode cL_act 89 = .ok (.iload_n 3, 1) := by decide +kernel
theorem dL_act_90 : decode cL_act 90 = .ok (.iload 4, 2) := by decide +kernel
theorem dL_act_92 : decode cL_act 92 = .ok (.iload 5, 2) := by decide +kernel
theorem dL_act_94 : decode cL_act 94 = .ok (.invokevirtual 21, 3) := by decide +kernel
theorem dL_act_97 : decode cL_act 97 = .ok (.if_icmp .ne 7, 3) := by decide +kernel
theorem dL_act_100 : decode cL_act 100 = .ok (.iconst 1, 1) := by decide +kernel
theorem dL_act_101 : decode cL_act 101 = .ok (.goto 4, 3) := by decide +kernel
theorem dL_act_104 : decode cL_act 104 = .ok (.iconst 0, 1) := by decide +kernel
theorem dL_act_105 : decode cL_act 105 = .ok (.ireturn, 1) := by decide +kernel
theorem dL_act_106 : decode cL_act 106 = .ok (.iload_n 2, 1) := by decide +kernel
theorem dL_act_107 : decode cL_act 107 = .ok (.bipush 6, 2) := by decide +kernel
theorem dL_act_109 : decode cL_act 109 = .ok (.ishr, 1) := by decide +kernel
theorem dL_act_110 : decode cL_act 110 = .ok (.iconst 3, 1) := by decide +kernel
theorem dL_act_111 : decode cL_act 111 = .ok (.invokestatic 9, 3) := by decide +kernel
theorem dL_act_114 : decode cL_act 114 = .ok (.ifCond .le 5, 3) := by decide +kernel
theorem dL_act_117 : decode cL_act 117 = .ok (.iconst 1, 1) := by decide +kernel
theorem dL_act_118 : decode cL_act 118 = .ok (.ireturn, 1) := by decide +kernel
theorem dL_act_119 : decode cL_act 119 = .ok (.aload_n 1, 1) := by decide +kernel
theorem dL_act_120 : decode cL_act 120 = .ok (.getfield 24, 3) := by decide +kernel
theorem dL_act_123 : decode cL_act 123 = .ok (.istore 4, 2) := by decide +kernel
theorem dL_act_125 : decode cL_act 125 = .ok (.aload_n 1, 1) := by decide +kernel
theorem dL_act_126 : decode cL_act 126 = .ok (.iload_n 2, 1) := by decide +kernel
theorem dL_act_127 : decode cL_act 127 = .ok (.bipush 8, 2) := by decide +kernel
theorem dL_act_129 : decode cL_act 129 = .ok (.ishr, 1) := by decide +kernel
theorem dL_act_130 : decode cL_act 130 = .ok (.iconst 2, 1) := by decide +kernel
theorem dL_act_131 : decode cL_act 131 = .ok (.invokestatic 9, 3) := by decide +kernel
theorem dL_act_134 : decode cL_act 134 = .ok (.ifCond .ne 17, 3) := by decide +kernel
theorem dL_act_137 : decode cL_act 137 = .ok (.iconst 4, 1) := by decide +kernel
theorem dL_act_138 : decode cL_act 138 = .ok (.iload_n 2, 1) := by decide +kernel
theorem dL_act_139 : decode cL_act 139 = .ok (.iconst 4, 1) := by decide +kernel
theorem dL_act_140 : decode cL_act 140 = .ok (.ishr, 1) := by decide +kernel
theorem dL_act_141 : decode cL_act 141 = .ok (.sipush 397, 3) := by decide +kernel
theorem dL_act_144 : decode cL_act 144 = .ok (.invokestatic 9, 3) := by decide +kernel
theorem dL_act_147 : decode cL_act 147 = .ok (.iadd, 1) := by decide +kernel
theorem dL_act_148 : decode cL_act 148 = .ok (.goto 13, 3) := by decide +kernel
theorem dL_act_151 : decode cL_act 151 = .ok (.bipush 8, 2) := by decide +kernel
theorem dL_act_153 : decode cL_act 153 = .ok (.iload_n 2, 1) := by decide +kernel
theorem dL_act_154 : decode cL_act 154 = .ok (.iconst 4, 1) := by decide +kernel
theorem dL_act_155 : decode cL_act 155 = .ok (.ishr, 1) := by decide +kernel
theorem dL_act_156 : decode cL_act 156 = .ok (.iconst 4, 1) := by decide +kernel
theorem dL_act_157 : decode cL_act 157 = .ok (.invokestatic 9, 3) := by decide +kernel
theorem dL_act_160 : decode cL_act 160 = .ok (.ishl, 1) := by decide +kernel
theorem dL_act_161 : decode cL_act 161 = .ok (.putfield 24, 3) := by decide +kernel
theorem dL_act_164 : decode cL_act 164 = .ok (.aload_n 0, 1) := by decide +kernel
theorem dL_act_165 : decode cL_act 165 = .ok (.aload_n 1, 1) := by decide +kernel
theorem dL_act_166 : decode cL_act 166 = .ok (.getfield 24, 3) := by decide +kernel
theorem dL_act_169 : decode cL_act 169 = .ok (.invokevirtual 28, 3) := by decide +kernel
theorem dL_act_172 : decode cL_act 172 = .ok (.iload 4, 2) := by decide +kernel
theorem dL_act_174 : decode cL_act 174 = .ok (.if_icmp .ne 7, 3) := by decide +kernel
theorem dL_act_177 : decode cL_act 177 = .ok (.iconst 1, 1) := by decide +kernel
theorem dL_act_178 : decode cL_act 178 = .ok (.goto 4, 3) := by decide +kernel
theorem dL_act_181 : decode cL_act 181 = .ok (.iconst 0, 1) := by decide +kernel
theorem dL_act_182 : decode cL_act 182 = .ok (.ireturn, 1) := by decide +kernel
theorem dL_act_183 : decode cL_act 183 = .ok (.iload_n 2, 1) := by decide +kernel
theorem dL_act_184 : decode cL_act 184 = .ok (.bipush 6, 2) := by decide +kernel
theorem dL_act_186 : decode cL_act 186 = .ok (.ishr, 1) := by decide +kernel
theorem dL_act_187 : decode cL_act 187 = .ok (.iconst 4, 1) := by decide +kernel
theorem dL_act_188 : decode cL_act 188 = .ok (.invokestatic 9, 3) := by decide +kernel
theorem dL_act_191 : decode cL_act 191 = .ok (.ifCond .gt 10, 3) := by decide +kernel
theorem dL_act_194 : decode cL_act 194 = .ok (.aload_n 1, 1) := by decide +kernel
theorem dL_act_195 : decode cL_act 195 = .ok (.invokevirtual 32, 3) := by decide +kernel
theorem dL_act_198 : decode cL_act 198 = .ok (.ifCond .ne 5, 3) := by decide +kernel
theorem dL_act_201 : decode cL_act 201 = .ok (.iconst 1, 1) := by decide +kernel
theorem dL_act_202 : decode cL_act 202 = .ok (.ireturn, 1) := by decide +kernel
theorem dL_act_203 : decode cL_act 203 = .ok (.aload_n 0, 1) := by decide +kernel
theorem dL_act_204 : decode cL_act 204 = .ok (.invokevirtual 36, 3) := by decide +kernel
theorem dL_act_207 : decode cL_act 207 = .ok (.aload_n 1, 1) := by decide +kernel
theorem dL_act_208 : decode cL_act 208 = .ok (.invokevirtual 39, 3) := by decide +kernel
theorem dL_act_211 : decode cL_act 211 = .ok (.if_icmp .ne 7, 3) := by decide +kernel
theorem dL_act_214 : decode cL_act 214 = .ok (.iconst 1, 1) := by decide +kernel
theorem dL_act_215 : decode cL_act 215 = .ok (.goto 4, 3) := by decide +kernel
theorem dL_act_218 : decode cL_act 218 = .ok (.iconst 0, 1) := by decide +kernel
theorem dL_act_219 : decode cL_act 219 = .ok (.ireturn, 1) := by decide +kernel
theorem dL_act_220 : decode cL_act 220 = .ok (.aload_n 0, 1) := by decide +kernel
theorem dL_act_221 : decode cL_act 221 = .ok (.iload_n 3, 1) := by decide +kernel
theorem dL_act_222 : decode cL_act 222 = .ok (.invokevirtual 40, 3) := by decide +kernel
theorem dL_act_225 : decode cL_act 225 = .ok (.aload_n 1, 1) := by decide +kernel
theorem dL_act_226 : decode cL_act 226 = .ok (.iload_n 3, 1) := by decide +kernel
theorem dL_act_227 : decode cL_act 227 = .ok (.invokevirtual 43, 3) := by decide +kernel
theorem dL_act_230 : decode cL_act 230 = .ok (.if_icmp .ne 7, 3) := by decide +kernel
theorem dL_act_233 : decode cL_act 233 = .ok (.iconst 1, 1) := by decide +kernel
theorem dL_act_234 : decode cL_act 234 = .ok (.goto 4, 3) := by decide +kernel
theorem dL_act_237 : decode cL_act 237 = .ok (.iconst 0, 1) := by decide +kernel
theorem dL_act_238 : decode cL_act 238 = .ok (.ireturn, 1) := by decide +kernel
set_option maxRecDepth 20000 in
theorem ggL_build_X4_init : GoodIn wsL_build wsX4_init := goodIn_r _ [5, 6, 7, 8, 9, 10, 11, 12, 13, 14, 15, 16, 208, 209, 210, 211, 212, 213, 214, 215, 216, 217] (by decide +kernel) (by decide +kernel)
set_option maxRecDepth 20000 in
theorem gL_build_X4_init_n44 : GoodIn wsL_build (wsX4_init) := ggL_build_X4_init
set_option maxRecDepth 20000 in
theorem ggL_build_L_cell : GoodIn wsL_build wsL_cell := goodIn_r _ [20, 21] (by decide +kernel) (by decide +kernel)
set_option maxRecDepth 20000 in
theorem gL_build_L_cell : GoodIn wsL_build (va_wsS RL 45 yL_cell wsL_cell) := goodIn_app (goodIn_of _ (by decide +kernel)) ggL_build_L_cell
set_option maxRecDepth 20000 in
theorem ggL_build_L_below : GoodIn wsL_build wsL_below := goodIn_r _ [24, 25] (by decide +kernel) (by decide +kernel)
set_option maxRecDepth 20000 in
theorem gL_build_L_below : GoodIn wsL_build (va_wsS RL 9 yL_below wsL_below) := goodIn_app (goodIn_of _ (by decide +kernel)) ggL_build_L_below
set_option maxRecDepth 20000 in
theorem ggL_build_L_act : GoodIn wsL_build wsL_act := goodIn_ca (goodIn_ca (goodIn_ca (goodIn_sub (List.forall_mem_cons.mpr ⟨mb_build_act_c, (mem_ap (mem_ap (mem_ap (mem_ap (mem_ap (mem_ap mb_build_act_1 (mem_ap mb_build_act_2 (mem_ap mb_build_act_3 (mem_ap mb_build_act_4 (mem_ap mb_build_act_5 (mem_ap mb_build_act_6 (mem_ap mb_build_act_7 (mem_ap mb_build_act_8 mb_build_act_9)))))))) mb_build_act_wsX40) mb_build_act_wsX30) mb_build_act_wsX10) mb_build_act_wsX20) mb_build_act_wsX00)⟩) (by decide +kernel)) (goodIn_sub (fun _ h => List.mem_cons_of_mem _ (List.mem_append_left _ (List.mem_append_left _ (List.mem_append_right _ h)))) (by decide +kernel))) (goodIn_sub (fun _ h => List.mem_cons_of_mem _ (List.mem_append_left _ (List.mem_append_right _ h))) (by decide +kernel))) (goodIn_sub (fun _ h => List.mem_cons_of_mem _ (List.mem_append_right _ h)) (by decide +kernel))
set_option maxRecDepth 20000 in
theorem gL_build_L_act : GoodIn wsL_build (va_wsS RL 49 yL_act wsL_act) := goodIn_app (goodIn_of _ (by decide +kernel)) ggL_build_L_act
theorem dL_build_0 : decode cL_build 0 = .ok (.new 22, 3) := by decide +kernel
theorem dL_build_3 : decode cL_build 3 = .ok (.dup, 1) := by decide +kernel
theorem dL_build_4 : decode cL_build 4 = .ok (.invokespecial 44, 3) := by decide +kernel
theorem dL_build_7 : decode cL_build 7 = .ok (.astore_n 2, 1) := by decide +kernel
theorem dL_build_8 : decode cL_build 8 = .ok (.aload_n 1, 1) := by decide +kernel
theorem dL_build_9 : decode cL_build 9 = .ok (.iconst 0, 1) := by decide +kernel
theorem dL_build_10 : decode cL_build 10 = .ok (.invokestatic 45, 3) := by decide +kernel
theorem dL_build_13 : decode cL_build 13 = .ok (.bipush 30, 2) := by decide +kernel
theorem dL_build_15 : decode cL_build 15 = .ok (.invokestatic 9, 3) := by decide +kernel
theorem dL_build_18 : decode cL_build 18 = .ok (.istore_n 3, 1) := by decide +kernel
theorem dL_build_19 : decode cL_build 19 = .ok (.iconst 0, 1) := by decide +kernel
theorem dL_build_20 : decode cL_build 20 = .ok (.istore 4, 2) := by decide +kernel
theorem dL_build_22 : decode cL_build 22 = .ok (.iload 4, 2) := by decide +kernel
theorem dL_build_24 : decode cL_build 24 = .ok (.iload_n 3, 1) := by decide +kernel
theorem dL_build_25 : decode cL_build 25 = .ok (.if_icmp .ge 42, 3) := by decide +kernel
theorem dL_build_28 : decode cL_build 28 = .ok (.aload_n 0, 1) := by decide +kernel
theorem dL_build_29 : decode cL_build 29 = .ok (.aload_n 2, 1) := by decide +kernel
theorem dL_build_30 : decode cL_build 30 = .ok (.aload_n 1, 1) := by decide +kernel
theorem dL_build_31 : decode cL_build 31 = .ok (.iload 4, 2) := by decide +kernel
theorem dL_build_33 : decode cL_build 33 = .ok (.bipush 16, 2) := by decide +kernel
theorem dL_build_35 : decode cL_build 35 = .ok (.irem, 1) := by decide +kernel
theorem dL_build_36 : decode cL_build 36 = .ok (.invokestatic 45, 3) := by decide +kernel
theorem dL_build_39 : decode cL_build 39 = .ok (.iload 4, 2) := by decide +kernel
theorem dL_build_41 : decode cL_build 41 = .ok (.bipush 16, 2) := by decide +kernel
theorem dL_build_43 : decode cL_build 43 = .ok (.idiv, 1) := by decide +kernel
theorem dL_build_44 : decode cL_build 44 = .ok (.iconst 4, 1) := by decide +kernel
theorem dL_build_45 : decode cL_build 45 = .ok (.imul, 1) := by decide +kernel
theorem dL_build_46 : decode cL_build 46 = .ok (.ishr, 1) := by decide +kernel
theorem dL_build_47 : decode cL_build 47 = .ok (.bipush 71, 2) := by decide +kernel
theorem dL_build_49 : decode cL_build 49 = .ok (.iload 4, 2) := by decide +kernel
theorem dL_build_51 : decode cL_build 51 = .ok (.imul, 1) := by decide +kernel
theorem dL_build_52 : decode cL_build 52 = .ok (.iadd, 1) := by decide +kernel
theorem dL_build_53 : decode cL_build 53 = .ok (.invokestatic 49, 3) := by decide +kernel
theorem dL_build_56 : decode cL_build 56 = .ok (.ifCond .ne 5, 3) := by decide +kernel
theorem dL_build_59 : decode cL_build 59 = .ok (.aconst_null, 1) := by decide +kernel
theorem dL_build_60 : decode cL_build 60 = .ok (.areturn, 1) := by decide +kernel
theorem dL_build_61 : decode cL_build 61 = .ok (.iinc 4 1, 3) := by decide +kernel
theorem dL_build_64 : decode cL_build 64 = .ok (.goto (-42), 3) := by decide +kernel
theorem dL_build_67 : decode cL_build 67 = .ok (.aload_n 2, 1) := by decide +kernel
theorem dL_build_68 : decode cL_build 68 = .ok (.areturn, 1) := by decide +kernel
set_option maxRecDepth 20000 in
theorem ggL_law_X3_init : GoodIn wsL_law wsX3_init := goodIn_r _ [11, 12, 13, 14, 15, 16, 17, 18, 19, 20, 21, 22, 23, 24, 25, 26, 27, 28, 29, 30, 3, 31, 32, 33, 34, 35, 36, 37, 38, 39, 40, 41, 42, 43, 44, 45, 46, 47, 48, 49, 50, 51, 52, 53, 54, 55, 2, 56, 345, 346, 347, 348, 343, 344, 349, 350, 351, 352, 353, 354, 355, 356, 357, 358, 359, 360, 361] (by decide +kernel) (by decide +kernel)
set_option maxRecDepth 20000 in
theorem gL_law_X3_init : GoodIn wsL_law (wsX3_init) := ggL_law_X3_init
set_option maxRecDepth 20000 in
theorem ggL_law_L_build : GoodIn wsL_law wsL_build := goodIn_ca (goodIn_ca (goodIn_ca (goodIn_sub (List.forall_mem_cons.mpr ⟨mb_law_build_c, (mem_ap (mem_ap (mem_ap (mem_ap (mem_ap (mem_ap mb_law_build_1 (mem_ap mb_law_build_2 (mem_ap mb_law_build_3 (mem_ap mb_law_build_4 (mem_ap mb_law_build_5 (mem_ap mb_law_build_6 (mem_ap mb_law_build_7 (mem_ap mb_law_build_8 mb_law_build_9)))))))) mb_law_build_wsX40) mb_law_build_wsX30) mb_law_build_wsX10) mb_law_build_wsX20) mb_law_build_wsX00)⟩) (by decide +kernel)) (goodIn_sub (fun _ h => List.mem_append_left _ (List.mem_append_left _ (List.mem_append_right _ h))) (by decide +kernel))) (goodIn_sub (fun _ h => List.mem_append_left _ (List.mem_append_right _ h)) (by decide +kernel))) (goodIn_sub (fun _ h => List.mem_append_right _ h) (by decide +kernel))
set_option maxRecDepth 20000 in
theorem gL_law_L_build : GoodIn wsL_law (va_wsS RL 54 yL_build wsL_build) := goodIn_app (goodIn_of _ (by decide +kernel)) ggL_law_L_build
set_option maxRecDepth 20000 in
theorem ggL_law_L_cell : GoodIn wsL_law wsL_cell := goodIn_r _ [76, 77] (by decide +kernel) (by decide +kernel)
set_option maxRecDepth 20000 in
theorem gL_law_L_cell : GoodIn wsL_law (va_wsS RL 45 yL_cell wsL_cell) := goodIn_app (goodIn_of _ (by decide +kernel)) ggL_law_L_cell
set_option maxRecDepth 20000 in
theorem ggL_law_L_act : GoodIn wsL_law wsL_act := goodIn_ca (goodIn_ca (goodIn_ca (goodIn_sub (List.forall_mem_cons.mpr ⟨mb_law_act_c, (mem_ap (mem_ap (mem_ap (mem_ap (mem_ap (mem_ap mb_law_act_1 (mem_ap mb_law_act_2 (mem_ap mb_law_act_3 (mem_ap mb_law_act_4 (mem_ap mb_law_act_5 (mem_ap mb_law_act_6 (mem_ap mb_law_act_7 (mem_ap mb_law_act_8 mb_law_act_9)))))))) mb_law_act_wsX40) mb_law_act_wsX30) mb_law_act_wsX10) mb_law_act_wsX20) mb_law_act_wsX00)⟩) (by decide +kernel)) (goodIn_sub (fun _ h => List.mem_append_left _ (List.mem_append_left _ (List.mem_append_right _ h))) (by decide +kernel))) (goodIn_sub (fun _ h => List.mem_append_left _ (List.mem_append_right _ h)) (by decide +kernel))) (goodIn_sub (fun _ h => List.mem_append_right _ h) (by decide +kernel))
set_option maxRecDepth 20000 in
theorem gL_law_L_act : GoodIn wsL_law (va_wsS RL 49 yL_act wsL_act) := goodIn_app (goodIn_of _ (by decide +kernel)) ggL_law_L_act
set_option maxRecDepth 20000 in
theorem ggL_law_X3_digest : GoodIn wsL_law wsX3_digest := goodIn_r _ [244, 245, 246, 18, 247, 17, 248, 249, 26, 107, 108, 27, 232, 25, 233, 234, 40, 136, 137, 138, 31, 116, 2, 117, 250, 251, 252, 32, 34, 33, 110, 111, 112, 113, 114, 115, 35, 118, 119, 120, 343, 344, 345, 346, 347, 348, 349, 350, 351, 352, 353, 354, 355, 356, 357] (by decide +kernel) (by decide +kernel)
set_option maxRecDepth 20000 in
theorem gL_law_X3_digest : GoodIn wsL_law (wsV RL 58 RX3 yX3_digest wsX3_digest) := goodIn_app (goodIn_of _ (by decide +kernel)) ggL_law_X3_digest
set_option maxRecDepth 20000 in
theorem ggL_law_L_below : GoodIn wsL_law wsL_below := goodIn_r _ [80, 81] (by decide +kernel) (by decide +kernel)
set_option maxRecDepth 20000 in
theorem gL_law_L_below : GoodIn wsL_law (va_wsS RL 9 yL_below wsL_below) := goodIn_app (goodIn_of _ (by decide +kernel)) ggL_law_L_below
set_option maxRecDepth 20000 in
theorem ggL_law_X3_told : GoodIn wsL_law wsX3_told := goodIn_ca (goodIn_r _ [256, 18, 95, 96, 2, 97, 98, 99, 110, 17, 111, 112, 26, 113, 25, 114, 115, 35, 116, 117, 118, 119, 120, 34, 257, 258, 259, 31, 260, 261, 262, 263, 264, 33, 265, 266, 267, 268, 343, 344, 345, 346, 347, 348, 349, 350, 351, 352, 353, 354, 355, 356, 357] (by decide +kernel) (by decide +kernel)) (goodIn_sub (fun _ h => List.mem_append_left _ (List.mem_append_right _ h)) (by decide +kernel))
set_option maxRecDepth 20000 in
theorem gL_law_X3_told : GoodIn wsL_law (wsV RL 62 RX3 yX3_told wsX3_told) := goodIn_app (goodIn_of _ (by decide +kernel)) ggL_law_X3_told
set_option maxRecDepth 20000 in
theorem ggL_law_X3_sole : GoodIn wsL_law wsX3_sole := goodIn_ca (goodIn_r _ [272, 18, 95, 96, 2, 97, 98, 99, 257, 25, 258, 259, 35, 31, 116, 117, 260, 118, 119, 120, 34, 261, 262, 263, 264, 33, 265, 266, 267, 268, 343, 344, 345, 346, 347, 348, 349, 350, 351, 352, 353, 354, 355, 356, 357] (by decide +kernel) (by decide +kernel)) (goodIn_sub (fun _ h => List.mem_append_left _ (List.mem_append_right _ h)) (by decide +kernel))
set_option maxRecDepth 20000 in
theorem gL_law_X3_sole : GoodIn wsL_law (wsV RL 65 RX3 yX3_sole wsX3_sole) := goodIn_app (goodIn_of _ (by decide +kernel)) ggL_law_X3_sole
set_option maxRecDepth 20000 in
theorem ggL_law_X3_read : GoodIn wsL_law wsX3_read := goodIn_ca (goodIn_r _ [276, 93, 94, 18, 277, 25, 278, 279, 33, 32, 116, 2, 117, 343, 344, 345, 346, 347, 348, 349, 350, 351, 352, 353, 354, 355, 356, 357] (by decide +kernel) (by decide +kernel)) (goodIn_sub (fun _ h => List.mem_append_left _ (List.mem_append_left _ (List.mem_append_right _ h))) (by decide +kernel))
set_option maxRecDepth 20000 in
theorem gL_law_X3_read : GoodIn wsL_law (wsV RL 70 RX3 yX3_read wsX3_read) := goodIn_app (goodIn_of _ (by decide +kernel)) ggL_law_X3_read
set_option maxRecDepth 20000 in
theorem ggL_law_X3_node : GoodIn wsL_law wsX3_node := goodIn_ca (goodIn_r _ [283, 18, 95, 96, 2, 97, 98, 99, 250, 25, 251, 252, 31, 32, 34, 33, 116, 117, 343, 344, 345, 346, 347, 348, 349, 350, 351, 352, 353, 354, 355, 356, 357] (by decide +kernel) (by decide +kernel)) (goodIn_sub (fun _ h => List.mem_append_left _ (List.mem_append_right _ h)) (by decide +kernel))
set_option maxRecDepth 20000 in
theorem gL_law_X3_node : GoodIn wsL_law (wsV RL 73 RX3 yX3_node wsX3_node) := goodIn_app (goodIn_of _ (by decide +kernel)) ggL_law_X3_node
set_option maxRecDepth 20000 in
theorem ggL_law_X3_cheapest : GoodIn wsL_law wsX3_cheapest := goodIn_r _ [287, 18, 113, 25, 114, 115, 35, 116, 2, 117, 110, 17, 111, 112, 26, 118, 119, 120, 34, 343, 344, 345, 346, 347, 348, 349, 350, 351, 352, 353, 354, 355, 356, 357] (by decide +kernel) (by decide +kernel)
set_option maxRecDepth 20000 in
theorem gL_law_X3_cheapest : GoodIn wsL_law (wsV RL 76 RX3 yX3_cheapest wsX3_cheapest) := goodIn_app (goodIn_of _ (by decide +kernel)) ggL_law_X3_cheapest
set_option maxRecDepth 20000 in
theorem ggL_law_X3_count : GoodIn wsL_law wsX3_count := goodIn_ca (goodIn_r _ [291, 18, 95, 96, 2, 97, 98, 99, 247, 17, 248, 249, 26, 107, 108, 27, 232, 25, 233, 234, 40, 136, 137, 138, 31, 116, 117, 343, 344, 345, 346, 347, 348, 349, 350, 351, 352, 353, 354, 355, 356, 357] (by decide +kernel) (by decide +kernel)) (goodIn_sub (fun _ h => List.mem_append_left _ (List.mem_append_right _ h)) (by decide +kernel))
set_option maxRecDepth 20000 in
theorem gL_law_X3_count : GoodIn wsL_law (wsV RL 79 RX3 yX3_count wsX3_count) := goodIn_app (goodIn_of _ (by decide +kernel)) ggL_law_X3_count
set_option maxRecDepth 20000 in
theorem ggL_law_X3_advise : GoodIn wsL_law wsX3_advise := goodIn_ca (goodIn_ca (goodIn_r _ [295, 296, 19, 18, 90, 91, 2, 92, 93, 94, 95, 96, 97, 98, 99, 297, 17, 298, 299, 26, 27, 300, 25, 301, 302, 31, 303, 304, 305, 306, 32, 33, 34, 35, 40, 100, 101, 102, 103, 104, 105, 106, 107, 108, 109, 110, 111, 112, 113, 114, 115, 116, 117, 118, 119, 120, 121, 122, 123, 51, 52, 53, 54, 55, 56, 124, 125, 126, 127, 128, 129, 130, 131, 132, 133, 134, 135, 136, 137, 138, 139, 140, 141, 39, 142, 143, 144, 145, 146, 147, 38, 148, 149, 150, 151, 152, 153, 44, 45, 46, 154, 155, 156, 157, 158, 159, 160, 161, 162, 163, 164, 343, 344, 345, 346, 347, 348, 349, 350, 351, 352, 353, 354, 355, 356, 357, 358, 359, 360, 361] (by decide +kernel) (by decide +kernel)) (goodIn_sub (fun _ h => List.mem_append_left _ (List.mem_append_left _ (List.mem_append_right _ h))) (by decide +kernel))) (goodIn_sub (fun _ h => List.mem_append_left _ (List.mem_append_right _ h)) (by decide +kernel))
set_option maxRecDepth 20000 in
theorem gL_law_X3_advise : GoodIn wsL_law (wsV RL 82 RX3 yX3_advise wsX3_advise) := goodIn_app (goodIn_of _ (by decide +kernel)) ggL_law_X3_advise
set_option maxRecDepth 20000 in
theorem ggL_law_X3_saved : GoodIn wsL_law wsX3_saved := goodIn_r _ [310, 18, 343, 344, 345, 346, 347, 348] (by decide +kernel) (by decide +kernel)
set_option maxRecDepth 20000 in
theorem gL_law_X3_saved : GoodIn wsL_law (wsV RL 85 RX3 yX3_saved wsX3_saved) := goodIn_app (goodIn_of _ (by decide +kernel)) ggL_law_X3_saved
set_option maxRecDepth 20000 in
theorem ggL_law_X3_mean : GoodIn wsL_law wsX3_mean := goodIn_r _ [314, 18, 343, 344, 345, 346, 347, 348] (by decide +kernel) (by decide +kernel)
set_option maxRecDepth 20000 in
theorem gL_law_X3_mean : GoodIn wsL_law (wsV RL 88 RX3 yX3_mean wsX3_mean) := goodIn_app (goodIn_of _ (by decide +kernel)) ggL_law_X3_mean
set_option maxRecDepth 20000 in
theorem ggL_law_X3_would : GoodIn wsL_law wsX3_would := goodIn_ca (goodIn_ca (goodIn_r _ [318, 19, 18, 90, 91, 2, 92, 93, 94, 95, 96, 97, 98, 99, 297, 17, 298, 299, 26, 27, 300, 25, 301, 302, 31, 303, 304, 305, 306, 32, 33, 34, 35, 40, 100, 101, 102, 103, 104, 105, 106, 107, 108, 109, 110, 111, 112, 113, 114, 115, 116, 117, 118, 119, 120, 121, 122, 123, 51, 52, 53, 54, 55, 56, 124, 125, 126, 127, 128, 129, 130, 131, 132, 133, 134, 135, 136, 137, 138, 139, 140, 141, 39, 142, 143, 144, 145, 146, 147, 38, 148, 149, 150, 151, 152, 153, 44, 45, 46, 154, 155, 156, 157, 158, 159, 160, 161, 162, 163, 164, 343, 344, 345, 346, 347, 348, 349, 350, 351, 352, 353, 354, 355, 356, 357, 358, 359, 360, 361] (by decide +kernel) (by decide +kernel)) (goodIn_sub (fun _ h => List.mem_append_left _ (List.mem_append_left _ (List.mem_append_right _ h))) (by decide +kernel))) (goodIn_sub (fun _ h => List.mem_append_left _ (List.mem_append_right _ h)) (by decide +kernel))
set_option maxRecDepth 20000 in
theorem gL_law_X3_would : GoodIn wsL_law (wsV RL 92 RX3 yX3_would wsX3_would) := goodIn_app (goodIn_of _ (by decide +kernel)) ggL_law_X3_would
set_option maxRecDepth 20000 in
theorem ggL_law_X3_use : GoodIn wsL_law wsX3_use := goodIn_ca (goodIn_r _ [239, 18, 95, 96, 2, 97, 98, 99, 104, 17, 105, 106, 26, 107, 108, 27, 109, 110, 111, 112, 113, 25, 114, 115, 35, 116, 117, 118, 119, 120, 34, 121, 122, 123, 40, 51, 52, 53, 54, 31, 32, 33, 55, 56, 124, 125, 126, 127, 128, 129, 130, 131, 132, 133, 134, 135, 136, 137, 138, 139, 140, 141, 39, 142, 143, 144, 145, 146, 147, 38, 148, 149, 150, 151, 152, 153, 44, 45, 46, 154, 155, 156, 157, 158, 159, 160, 161, 162, 163, 164, 343, 344, 345, 346, 347, 348, 349, 350, 351, 352, 353, 354, 355, 356, 357, 358, 359, 360, 361] (by decide +kernel) (by decide +kernel)) (goodIn_sub (fun _ h => List.mem_append_left _ (List.mem_append_right _ h)) (by decide +kernel))
set_option maxRecDepth 20000 in
theorem gL_law_X3_use : GoodIn wsL_law (wsV RL 40 RX3 yX3_use wsX3_use) := goodIn_app (goodIn_of _ (by decide +kernel)) ggL_law_X3_use
set_option maxRecDepth 20000 in
theorem ggL_law_X4_use : GoodIn wsL_law wsX4_use := goodIn_r _ [172, 3, 68, 71, 72, 67, 69, 173, 174, 73, 175, 176, 177, 63, 178, 179, 180, 181, 182, 183, 184, 185, 186, 187, 188, 189, 190, 191, 192, 193, 194, 195, 196, 70, 197, 198, 199, 200, 201, 202, 203, 204, 205, 206, 207, 208, 209, 210, 211, 212, 213, 214, 215, 216, 217, 362, 363, 364, 365, 366, 367, 368, 369, 370, 371] (by decide +kernel) (by decide +kernel)
set_option maxRecDepth 20000 in
theorem gL_law_X4_use : GoodIn wsL_law (wsV RL 43 RX4 yX4_use wsX4_use) := goodIn_app (goodIn_of _ (by decide +kernel)) ggL_law_X4_use
set_option maxRecDepth 20000 in
theorem ggL_law_X4_isSame : GoodIn wsL_law wsX4_isSame := goodIn_ca (goodIn_r _ [322, 3, 72, 67, 173, 174, 201, 210, 73, 68, 69, 71, 323, 223, 224, 63, 225, 324, 289, 290, 2, 291, 18, 95, 96, 97, 98, 99, 247, 17, 248, 249, 26, 107, 108, 27, 232, 25, 233, 234, 40, 136, 137, 138, 31, 116, 117, 325, 281, 282, 283, 250, 251, 252, 32, 34, 33, 202, 203, 204, 205, 326, 254, 255, 256, 110, 111, 112, 113, 114, 115, 35, 118, 119, 120, 257, 258, 259, 260, 261, 262, 263, 264, 265, 266, 267, 268, 179, 180, 181, 182, 327, 328, 329, 330, 183, 184, 185, 186, 331, 332, 333, 334, 335, 336, 337, 338, 175, 176, 177, 178, 339, 270, 271, 272, 340, 285, 286, 287, 341, 308, 309, 310, 342, 312, 313, 314, 362, 363, 364, 365, 366, 367, 368, 369, 370, 371, 343, 344, 345, 346, 347, 348, 349, 350, 351, 352, 353, 354, 355, 356, 357] (by decide +kernel) (by decide +kernel)) (goodIn_sub (fun _ h => List.mem_append_left _ (List.mem_append_right _ h)) (by decide +kernel))
set_option maxRecDepth 20000 in
theorem gL_law_X4_isSame : GoodIn wsL_law (wsV RL 100 RX4 yX4_isSame wsX4_isSame) := goodIn_app (goodIn_of _ (by decide +kernel)) ggL_law_X4_isSame
theorem dL_law_0 : decode cL_law 0 = .ok (.new 16, 3) := by decide +kernel
theorem dL_law_3 : decode cL_law 3 = .ok (.dup, 1) := by decide +kernel
theorem dL_law_4 : decode cL_law 4 = .ok (.invokespecial 53, 3) := by decide +kernel
theorem dL_law_7 : decode cL_law 7 = .ok (.astore_n 1, 1) := by decide +kernel
theorem dL_law_8 : decode cL_law 8 = .ok (.aload_n 1, 1) := by decide +kernel
theorem dL_law_9 : decode cL_law 9 = .ok (.aload_n 0, 1) := by decide +kernel
theorem dL_law_10 : decode cL_law 10 = .ok (.invokestatic 54, 3) := by decide +kernel
theorem dL_law_13 : decode cL_law 13 = .ok (.astore_n 2, 1) := by decide +kernel
theorem dL_law_14 : decode cL_law 14 = .ok (.aload_n 2, 1) := by decide +kernel
theorem dL_law_15 : decode cL_law 15 = .ok (.ifnonnull 5, 3) := by decide +kernel
theorem dL_law_18 : decode cL_law 18 = .ok (.iconst 0, 1) := by decide +kernel
theorem dL_law_19 : decode cL_law 19 = .ok (.ireturn, 1) := by decide +kernel
theorem dL_law_20 : decode cL_law 20 = .ok (.iconst 0, 1) := by decide +kernel
theorem dL_law_21 : decode cL_law 21 = .ok (.istore_n 3, 1) := by decide +kernel
theorem dL_law_22 : decode cL_law 22 = .ok (.iload_n 3, 1) := by decide +kernel
theorem dL_law_23 : decode cL_law 23 = .ok (.bipush 10, 2) := by decide +kernel
theorem dL_law_25 : decode cL_law 25 = .ok (.if_icmp .ge 925, 3) := by decide +kernel
theorem dL_law_28 : decode cL_law 28 = .ok (.aload_n 0, 1) := by decide +kernel
theorem dL_law_29 : decode cL_law 29 = .ok (.iload_n 3, 1) := by decide +kernel
theorem dL_law_30 : decode cL_law 30 = .ok (.iconst 2, 1) := by decide +kernel
theorem dL_law_31 : decode cL_law 31 = .ok (.iadd, 1) := by decide +kernel
theorem dL_law_32 : decode cL_law 32 = .ok (.invokestatic 45, 3) := by decide +kernel
theorem dL_law_35 : decode cL_law 35 = .ok (.iconst 1, 1) := by decide +kernel
theorem dL_law_36 : decode cL_law 36 = .ok (.ishr, 1) := by decide +kernel
theorem dL_law_37 : decode cL_law 37 = .ok (.bipush 59, 2) := by decide +kernel
theorem dL_law_39 : decode cL_law 39 = .ok (.iload_n 3, 1) := by decide +kernel
theorem dL_law_40 : decode cL_law 40 = .ok (.imul, 1) := by decide +kernel
theorem dL_law_41 : decode cL_law 41 = .ok (.iadd, 1) := by decide +kernel
theorem dL_law_42 : decode cL_law 42 = .ok (.istore 4, 2) := by decide +kernel
theorem dL_law_44 : decode cL_law 44 = .ok (.aload_n 1, 1) := by decide +kernel
theorem dL_law_45 : decode cL_law 45 = .ok (.aload_n 2, 1) := by decide +kernel
theorem dL_law_46 : decode cL_law 46 = .ok (.iload 4, 2) := by decide +kernel
theorem dL_law_48 : decode cL_law 48 = .ok (.invokestatic 49, 3) := by decide +kernel
theorem dL_law_51 : decode cL_law 51 = .ok (.ifCond .ne 5, 3) := by decide +kernel
theorem dL_law_54 : decode cL_law 54 = .ok (.iconst 0, 1) := by decide +kernel
theorem dL_law_55 : decode cL_law 55 = .ok (.ireturn, 1) := by decide +kernel
theorem dL_law_56 : decode cL_law 56 = .ok (.aload_n 1, 1) := by decide +kernel
theorem dL_law_57 : decode cL_law 57 = .ok (.invokevirtual 58, 3) := by decide +kernel
theorem dL_law_60 : decode cL_law 60 = .ok (.lstore 5, 2) := by decide +kernel
theorem dL_law_62 : decode cL_law 62 = .ok (.iload 4, 2) := by decide +kernel
theorem dL_law_64 : decode cL_law 64 = .ok (.iconst 3, 1) := by decide +kernel
theorem dL_law_65 : decode cL_law 65 = .ok (.ishr, 1) := by decide +kernel
theorem dL_law_66 : decode cL_law 66 = .ok (.iload 4, 2) := by decide +kernel
theorem dL_law_68 : decode cL_law 68 = .ok (.iconst 2, 1) := by decide +kernel
theorem dL_law_69 : decode cL_law 69 = .ok (.invokestatic 9, 3) := by decide +kernel
theorem dL_law_72 : decode cL_law 72 = .ok (.ifCond .ne 8, 3) := by decide +kernel
theorem dL_law_75 : decode cL_law 75 = .ok (.bipush 32, 2) := by decide +kernel
theorem dL_law_77 : decode cL_law 77 = .ok (.goto 5, 3) := by decide +kernel
theorem dL_law_80 : decode cL_law 80 = .ok (.bipush 6, 2) := by decide +kernel
theorem dL_law_82 : decode cL_law 82 = .ok (.invokestatic 9, 3) := by decide +kernel
theorem dL_law_85 : decode cL_law 85 = .ok (.istore 7, 2) := by decide +kernel
theorem dL_law_87 : decode cL_law 87 = .ok (.aload_n 1, 1) := by decide +kernel
theorem dL_law_88 : decode cL_law 88 = .ok (.iload 7, 2) := by decide +kernel
theorem dL_law_90 : decode cL_law 90 = .ok (.iconst 5, 1) := by decide +kernel
theorem dL_law_91 : decode cL_law 91 = .ok (.invokevirtual 62, 3) := by decide +kernel
theorem dL_law_94 : decode cL_law 94 = .ok (.istore 8, 2) := by decide +kernel
theorem dL_law_96 : decode cL_law 96 = .ok (.aload_n 1, 1) := by decide +kernel
theorem dL_law_97 : decode cL_law 97 = .ok (.iconst 1, 1) := by decide +kernel
theorem dL_law_98 : decode cL_law 98 = .ok (.invokevirtual 65, 3) := by decide +kernel
theorem dL_law_101 : decode cL_law 101 = .ok (.istore 9, 2) := by decide +kernel
theorem dL_law_103 : decode cL_law 103 = .ok (.bipush 32, 2) := by decide +kernel
theorem dL_law_105 : decode cL_law 105 = .ok (.newarray .int, 2) := by decide +kernel
theorem dL_law_107 : decode cL_law 107 = .ok (.astore 10, 2) := by decide +kernel
theorem dL_law_109 : decode cL_law 109 = .ok (.bipush 32, 2) := by decide +kernel
theorem dL_law_111 : decode cL_law 111 = .ok (.iconst 4, 1) := by decide +kernel
theorem dL_law_112 : decode cL_law 112 = .ok (.multianewarray 68 2, 4) := by decide +kernel
theorem dL_law_116 : decode cL_law 116 = .ok (.astore 11, 2) := by decide +kernel
theorem dL_law_118 : decode cL_law 118 = .ok (.iconst 0, 1) := by decide +kernel
theorem dL_law_119 : decode cL_law 119 = .ok (.istore 12, 2) := by decide +kernel
theorem dL_law_121 : decode cL_law 121 = .ok (.iload 12, 2) := by decide +kernel
theorem dL_law_123 : decode cL_law 123 = .ok (.bipush 32, 2) := by decide +kernel
theorem dL_law_125 : decode cL_law 125 = .ok (.if_icmp .ge 329, 3) := by decide +kernel
theorem dL_law_128 : decode cL_law 128 = .ok (.iconst 1, 1) := by decide +kernel
theorem dL_law_129 : decode cL_law 129 = .ok (.istore 13, 2) := by decide +kernel
theorem dL_law_131 : decode cL_law 131 = .ok (.iload 13, 2) := by decide +kernel
theorem dL_law_133 : decode cL_law 133 = .ok (.iconst 4, 1) := by decide +kernel
theorem dL_law_134 : decode cL_law 134 = .ok (.if_icmp .ge 25, 3) := by decide +kernel
theorem dL_law_137 : decode cL_law 137 = .ok (.aload 11, 2) := by decide +kernel
theorem dL_law_139 : decode cL_law 139 = .ok (.iload 12, 2) := by decide +kernel
theorem dL_law_141 : decode cL_law 141 = .ok (.aaload, 1) := by decide +kernel
theorem dL_law_142 : decode cL_law 142 = .ok (.iload 13, 2) := by decide +kernel
theorem dL_law_144 : decode cL_law 144 = .ok (.aload_n 1, 1) := by decide +kernel
theorem dL_law_145 : decode cL_law 145 = .ok (.iload 12, 2) := by decide +kernel
theorem dL_law_147 : decode cL_law 147 = .ok (.iload 13, 2) := by decide +kernel
theorem dL_law_149 : decode cL_law 149 = .ok (.invokevirtual 62, 3) := by decide +kernel
theorem dL_law_152 : decode cL_law 152 = .ok (.iastore, 1) := by decide +kernel
theorem dL_law_153 : decode cL_law 153 = .ok (.iinc 13 1, 3) := by decide +kernel
theorem dL_law_156 : decode cL_law 156 = .ok (.goto (-25), 3) := by decide +kernel
theorem dL_law_159 : decode cL_law 159 = .ok (.aload 10, 2) := by decide +kernel
theorem dL_law_161 : decode cL_law 161 = .ok (.iload 12, 2) := by decide +kernel
theorem dL_law_163 : decode cL_law 163 = .ok (.aload_n 1, 1) := by decide +kernel
theorem dL_law_164 : decode cL_law 164 = .ok (.iload 12, 2) := by decide +kernel
theorem dL_law_166 : decode cL_law 166 = .ok (.iconst 0, 1) := by decide +kernel
theorem dL_law_167 : decode cL_law 167 = .ok (.invokevirtual 62, 3) := by decide +kernel
theorem dL_law_170 : decode cL_law 170 = .ok (.iastore, 1) := by decide +kernel
theorem dL_law_171 : decode cL_law 171 = .ok (.aload 11, 2) := by decide +kernel
theorem dL_law_173 : decode cL_law 173 = .ok (.iload 12, 2) := by decide +kernel
theorem dL_law_175 : decode cL_law 175 = .ok (.aaload, 1) := by decide +kernel
theorem dL_law_176 : decode cL_law 176 = .ok (.iconst 1, 1) := by decide +kernel
theorem dL_law_177 : decode cL_law 177 = .ok (.iaload, 1) := by decide +kernel
theorem dL_law_178 : decode cL_law 178 = .ok (.istore 13, 2) := by decide +kernel
theorem dL_law_180 : decode cL_law 180 = .ok (.aload 10, 2) := by decide +kernel
theorem dL_law_182 : decode cL_law 182 = .ok (.iload 12, 2) := by decide +kernel
theorem dL_law_184 : decode cL_law 184 = .ok (.iaload, 1) := by decide +kernel
theorem dL_law_185 : decode cL_law 185 = .ok (.ifCond .ge 7, 3) := by decide +kernel
theorem dL_law_188 : decode cL_law 188 = .ok (.iconst 1, 1) := by decide +kernel
theorem dL_law_189 : decode cL_law 189 = .ok (.goto 4, 3) := by decide +kernel
theorem dL_law_192 : decode cL_law 192 = .ok (.iconst 0, 1) := by decide +kernel
theorem dL_law_193 : decode cL_law 193 = .ok (.iload 13, 2) := by decide +kernel
theorem dL_law_195 : decode cL_law 195 = .ok (.ifCond .ge 7, 3) := by decide +kernel
theorem dL_law_198 : decode cL_law 198 = .ok (.iconst 1, 1) := by decide +kernel
theorem dL_law_199 : decode cL_law 199 = .ok (.goto 4, 3) := by decide +kernel
theorem dL_law_202 : decode cL_law 202 = .ok (.iconst 0, 1) := by decide +kernel
theorem dL_law_203 : decode cL_law 203 = .ok (.if_icmp .ne 38, 3) := by decide +kernel
theorem dL_law_206 : decode cL_law 206 = .ok (.aload 10, 2) := by decide +kernel
theorem dL_law_208 : decode cL_law 208 = .ok (.iload 12, 2) := by decide +kernel
theorem dL_law_210 : decode cL_law 210 = .ok (.iaload, 1) := by decide +kernel
theorem dL_law_211 : decode cL_law 211 = .ok (.ifCond .eq 30, 3) := by decide +kernel
theorem dL_law_214 : decode cL_law 214 = .ok (.aload_n 1, 1) := by decide +kernel
theorem dL_law_215 : decode cL_law 215 = .ok (.iload 12, 2) := by decide +kernel
theorem dL_law_217 : decode cL_law 217 = .ok (.iconst 5, 1) := by decide +kernel
theorem dL_law_218 : decode cL_law 218 = .ok (.invokevirtual 62, 3) := by decide +kernel
theorem dL_law_221 : decode cL_law 221 = .ok (.aload 10, 2) := by decide +kernel
theorem dL_law_223 : decode cL_law 223 = .ok (.iload 12, 2) := by decide +kernel
theorem dL_law_225 : decode cL_law 225 = .ok (.iaload, 1) := by decide +kernel
theorem dL_law_226 : decode cL_law 226 = .ok (.ifCond .ge 10, 3) := by decide +kernel
theorem dL_law_229 : decode cL_law 229 = .ok (.iload 9, 2) := by decide +kernel
theorem dL_law_231 : decode cL_law 231 = .ok (.iconst 5, 1) := by decide +kernel
theorem dL_law_232 : decode cL_law 232 = .ok (.iadd, 1) := by decide +kernel
theorem dL_law_233 : decode cL_law 233 = .ok (.goto 5, 3) := by decide +kernel
theorem dL_law_236 : decode cL_law 236 = .ok (.iload 13, 2) := by decide +kernel
theorem dL_law_238 : decode cL_law 238 = .ok (.if_icmp .eq 5, 3) := by decide +kernel
theorem dL_law_241 : decode cL_law 241 = .ok (.iconst 0, 1) := by decide +kernel
theorem dL_law_242 : decode cL_law 242 = .ok (.ireturn, 1) := by decide +kernel
theorem dL_law_243 : decode cL_law 243 = .ok (.aload 10, 2) := by decide +kernel
theorem dL_law_245 : decode cL_law 245 = .ok (.iload 12, 2) := by decide +kernel
theorem dL_law_247 : decode cL_law 247 = .ok (.iaload, 1) := by decide +kernel
theorem dL_law_248 : decode cL_law 248 = .ok (.ifCond .ge 16, 3) := by decide +kernel
theorem dL_law_251 : decode cL_law 251 = .ok (.aload_n 1, 1) := by decide +kernel
theorem dL_law_252 : decode cL_law 252 = .ok (.iconst 2, 1) := by decide +kernel
theorem dL_law_253 : decode cL_law 253 = .ok (.invokevirtual 65, 3) := by decide +kernel
theorem dL_law_256 : decode cL_law 256 = .ok (.iconst 5, 1) := by decide +kernel
theorem dL_law_257 : decode cL_law 257 = .ok (.ishl, 1) := by decide +kernel
theorem dL_law_258 : decode cL_law 258 = .ok (.iload 12, 2) := by decide +kernel
theorem dL_law_260 : decode cL_law 260 = .ok (.ior, 1) := by decide +kernel
theorem dL_law_261 : decode cL_law 261 = .ok (.goto 10, 3) := by decide +kernel
theorem dL_law_264 : decode cL_law 264 = .ok (.aload 11, 2) := by decide +kernel
theorem dL_law_266 : decode cL_law 266 = .ok (.iload 12, 2) := by decide +kernel
theorem dL_law_268 : decode cL_law 268 = .ok (.aaload, 1) := by decide +kernel
theorem dL_law_269 : decode cL_law 269 = .ok (.iconst 2, 1) := by decide +kernel
theorem dL_law_270 : decode cL_law 270 = .ok (.iaload, 1) := by decide +kernel
theorem dL_law_271 : decode cL_law 271 = .ok (.istore 14, 2) := by decide +kernel
theorem dL_law_273 : decode cL_law 273 = .ok (.aload_n 1, 1) := by decide +kernel
theorem dL_law_274 : decode cL_law 274 = .ok (.iload 14, 2) := by decide +kernel
theorem dL_law_276 : decode cL_law 276 = .ok (.aload_n 1, 1) := by decide +kernel
theorem dL_law_277 : decode cL_law 277 = .ok (.iload 12, 2) := by decide +kernel
theorem dL_law_279 : decode cL_law 279 = .ok (.iconst 5, 1) := by decide +kernel
theorem dL_law_280 : decode cL_law 280 = .ok (.invokevirtual 62, 3) := by decide +kernel
theorem dL_law_283 : decode cL_law 283 = .ok (.invokevirtual 70, 3) := by decide +kernel
theorem dL_law_286 : decode cL_law 286 = .ok (.aload 10, 2) := by decide +kernel
theorem dL_law_288 : decode cL_law 288 = .ok (.iload 12, 2) := by decide +kernel
theorem dL_law_290 : decode cL_law 290 = .ok (.iaload, 1) := by decide +kernel
theorem dL_law_291 : decode cL_law 291 = .ok (.ifCond .ge 11, 3) := by decide +kernel
theorem dL_law_294 : decode cL_law 294 = .ok (.bipush 100, 2) := by decide +kernel
theorem dL_law_296 : decode cL_law 296 = .ok (.iload 12, 2) := by decide +kernel
theorem dL_law_298 : decode cL_law 298 = .ok (.iadd, 1) := by decide +kernel
theorem dL_law_299 : decode cL_law 299 = .ok (.goto 5, 3) := by decide +kernel
theorem dL_law_302 : decode cL_law 302 = .ok (.iload 12, 2) := by decide +kernel
theorem dL_law_304 : decode cL_law 304 = .ok (.if_icmp .eq 5, 3) := by decide +kernel
theorem dL_law_307 : decode cL_law 307 = .ok (.iconst 0, 1) := by decide +kernel
theorem dL_law_308 : decode cL_law 308 = .ok (.ireturn, 1) := by decide +kernel
theorem dL_law_309 : decode cL_law 309 = .ok (.iload 13, 2) := by decide +kernel
theorem dL_law_311 : decode cL_law 311 = .ok (.ifCond .lt 68, 3) := by decide +kernel
theorem dL_law_314 : decode cL_law 314 = .ok (.aload 11, 2) := by decide +kernel
theorem dL_law_316 : decode cL_law 316 = .ok (.iload 12, 2) := by decide +kernel
theorem dL_law_318 : decode cL_law 318 = .ok (.aaload, 1) := by decide +kernel
theorem dL_law_319 : decode cL_law 319 = .ok (.iconst 2, 1) := by decide +kernel
theorem dL_law_320 : decode cL_law 320 = .ok (.iaload, 1) := by decide +kernel
theorem dL_law_321 : decode cL_law 321 = .ok (.iload 13, 2) := by decide +kernel
theorem dL_law_323 : decode cL_law 323 = .ok (.ishr, 1) := by decide +kernel
theorem dL_law_324 : decode cL_law 324 = .ok (.ifCond .ne 53, 3) := by decide +kernel
theorem dL_law_327 : decode cL_law 327 = .ok (.aload 11, 2) := by decide +kernel
theorem dL_law_329 : decode cL_law 329 = .ok (.iload 12, 2) := by decide +kernel
theorem dL_law_331 : decode cL_law 331 = .ok (.aaload, 1) := by decide +kernel
theorem dL_law_332 : decode cL_law 332 = .ok (.iconst 3, 1) := by decide +kernel
theorem dL_law_333 : decode cL_law 333 = .ok (.iaload, 1) := by decide +kernel
theorem dL_law_334 : decode cL_law 334 = .ok (.iload 13, 2) := by decide +kernel
theorem dL_law_336 : decode cL_law 336 = .ok (.ishr, 1) := by decide +kernel
theorem dL_law_337 : decode cL_law 337 = .ok (.ifCond .ne 40, 3) := by decide +kernel
theorem dL_law_340 : decode cL_law 340 = .ok (.aload_n 1, 1) := by decide +kernel
theorem dL_law_341 : decode cL_law 341 = .ok (.aload_n 1, 1) := by decide +kernel
theorem dL_law_342 : decode cL_law 342 = .ok (.iload 12, 2) := by decide +kernel
theorem dL_law_344 : decode cL_law 344 = .ok (.iconst 4, 1) := by decide +kernel
theorem dL_law_345 : decode cL_law 345 = .ok (.invokevirtual 62, 3) := by decide +kernel
theorem dL_law_348 : decode cL_law 348 = .ok (.iconst 1, 1) := by decide +kernel
theorem dL_law_349 : decode cL_law 349 = .ok (.invokevirtual 73, 3) := by decide +kernel
theorem dL_law_352 : decode cL_law 352 = .ok (.iload 12, 2) := by decide +kernel
theorem dL_law_354 : decode cL_law 354 = .ok (.if_icmp .ne 23, 3) := by decide +kernel
theorem dL_law_357 : decode cL_law 357 = .ok (.aload_n 1, 1) := by decide +kernel
theorem dL_law_358 : decode cL_law 358 = .ok (.aload_n 1, 1) := by decide +kernel
theorem dL_law_359 : decode cL_law 359 = .ok (.iload 12, 2) := by decide +kernel
theorem dL_law_361 : decode cL_law 361 = .ok (.iconst 4, 1) := by decide +kernel
theorem dL_law_362 : decode cL_law 362 = .ok (.invokevirtual 62, 3) := by decide +kernel
theorem dL_law_365 : decode cL_law 365 = .ok (.iconst 0, 1) := by decide +kernel
theorem dL_law_366 : decode cL_law 366 = .ok (.invokevirtual 73, 3) := by decide +kernel
theorem dL_law_369 : decode cL_law 369 = .ok (.aload 10, 2) := by decide +kernel
theorem dL_law_371 : decode cL_law 371 = .ok (.iload 12, 2) := by decide +kernel
theorem dL_law_373 : decode cL_law 373 = .ok (.iaload, 1) := by decide +kernel
theorem dL_law_374 : decode cL_law 374 = .ok (.if_icmp .eq 5, 3) := by decide +kernel
theorem dL_law_377 : decode cL_law 377 = .ok (.iconst 0, 1) := by decide +kernel
theorem dL_law_378 : decode cL_law 378 = .ok (.ireturn, 1) := by decide +kernel
theorem dL_law_379 : decode cL_law 379 = .ok (.iconst 0, 1) := by decide +kernel
theorem dL_law_380 : decode cL_law 380 = .ok (.istore 15, 2) := by decide +kernel
theorem dL_law_382 : decode cL_law 382 = .ok (.iload 15, 2) := by decide +kernel
theorem dL_law_384 : decode cL_law 384 = .ok (.iload 12, 2) := by decide +kernel
theorem dL_law_386 : decode cL_law 386 = .ok (.if_icmp .ge 62, 3) := by decide +kernel
theorem dL_law_389 : decode cL_law 389 = .ok (.iload 13, 2) := by decide +kernel
theorem dL_law_391 : decode cL_law 391 = .ok (.ifCond .lt 51, 3) := by decide +kernel
theorem dL_law_394 : decode cL_law 394 = .ok (.aload 11, 2) := by decide +kernel
theorem dL_law_396 : decode cL_law 396 = .ok (.iload 15, 2) := by decide +kernel
theorem dL_law_398 : decode cL_law 398 = .ok (.aaload, 1) := by decide +kernel
theorem dL_law_399 : decode cL_law 399 = .ok (.iconst 1, 1) := by decide +kernel
theorem dL_law_400 : decode cL_law 400 = .ok (.iaload, 1) := by decide +kernel
theorem dL_law_401 : decode cL_law 401 = .ok (.iload 13, 2) := by decide +kernel
theorem dL_law_403 : decode cL_law 403 = .ok (.if_icmp .ne 39, 3) := by decide +kernel
theorem dL_law_406 : decode cL_law 406 = .ok (.aload 11, 2) := by decide +kernel
theorem dL_law_408 : decode cL_law 408 = .ok (.iload 15, 2) := by decide +kernel
theorem dL_law_410 : decode cL_law 410 = .ok (.aaload, 1) := by decide +kernel
theorem dL_law_411 : decode cL_law 411 = .ok (.iconst 2, 1) := by decide +kernel
theorem dL_law_412 : decode cL_law 412 = .ok (.iaload, 1) := by decide +kernel
theorem dL_law_413 : decode cL_law 413 = .ok (.aload 11, 2) := by decide +kernel
theorem dL_law_415 : decode cL_law 415 = .ok (.iload 12, 2) := by decide +kernel
theorem dL_law_417 : decode cL_law 417 = .ok (.aaload, 1) := by decide +kernel
theorem dL_law_418 : decode cL_law 418 = .ok (.iconst 2, 1) := by decide +kernel
theorem dL_law_419 : decode cL_law 419 = .ok (.iaload, 1) := by decide +kernel
theorem dL_law_420 : decode cL_law 420 = .ok (.if_icmp .eq 20, 3) := by decide +kernel
theorem dL_law_423 : decode cL_law 423 = .ok (.aload 11, 2) := by decide +kernel
theorem dL_law_425 : decode cL_law 425 = .ok (.iload 15, 2) := by decide +kernel
theorem dL_law_427 : decode cL_law 427 = .ok (.aaload, 1) := by decide +kernel
theorem dL_law_428 : decode cL_law 428 = .ok (.iconst 3, 1) := by decide +kernel
theorem dL_law_429 : decode cL_law 429 = .ok (.iaload, 1) := by decide +kernel
theorem dL_law_430 : decode cL_law 430 = .ok (.aload 11, 2) := by decide +kernel
theorem dL_law_432 : decode cL_law 432 = .ok (.iload 12, 2) := by decide +kernel
theorem dL_law_434 : decode cL_law 434 = .ok (.aaload, 1) := by decide +kernel
theorem dL_law_435 : decode cL_law 435 = .ok (.iconst 3, 1) := by decide +kernel
theorem dL_law_436 : decode cL_law 436 = .ok (.iaload, 1) := by decide +kernel
theorem dL_law_437 : decode cL_law 437 = .ok (.if_icmp .lt 5, 3) := by decide +kernel
theorem dL_law_440 : decode cL_law 440 = .ok (.iconst 0, 1) := by decide +kernel
theorem dL_law_441 : decode cL_law 441 = .ok (.ireturn, 1) := by decide +kernel
theorem dL_law_442 : decode cL_law 442 = .ok (.iinc 15 1, 3) := by decide +kernel
theorem dL_law_445 : decode cL_law 445 = .ok (.goto (-63), 3) := by decide +kernel
theorem dL_law_448 : decode cL_law 448 = .ok (.iinc 12 1, 3) := by decide +kernel
theorem dL_law_451 : decode cL_law 451 = .ok (.goto (-330), 3) := by decide +kernel
theorem dL_law_454 : decode cL_law 454 = .ok (.aload_n 1, 1) := by decide +kernel
theorem dL_law_455 : decode cL_law 455 = .ok (.invokevirtual 76, 3) := by decide +kernel
theorem dL_law_458 : decode cL_law 458 = .ok (.istore 12, 2) := by decide +kernel
theorem dL_law_460 : decode cL_law 460 = .ok (.iload 12, 2) := by decide +kernel
theorem dL_law_462 : decode cL_law 462 = .ok (.ifCond .ge 7, 3) := by decide +kernel
theorem dL_law_465 : decode cL_law 465 = .ok (.iconst 1, 1) := by decide +kernel
theorem dL_law_466 : decode cL_law 466 = .ok (.goto 4, 3) := by decide +kernel
theorem dL_law_469 : decode cL_law 469 = .ok (.iconst 0, 1) := by decide +kernel
theorem dL_law_470 : decode cL_law 470 = .ok (.aload_n 1, 1) := by decide +kernel
theorem dL_law_471 : decode cL_law 471 = .ok (.iconst 0, 1) := by decide +kernel
theorem dL_law_472 : decode cL_law 472 = .ok (.invokevirtual 79, 3) := by decide +kernel
theorem dL_law_475 : decode cL_law 475 = .ok (.ifCond .ne 7, 3) := by decide +kernel
theorem dL_law_478 : decode cL_law 478 = .ok (.iconst 1, 1) := by decide +kernel
theorem dL_law_479 : decode cL_law 479 = .ok (.goto 4, 3) := by decide +kernel
theorem dL_law_482 : decode cL_law 482 = .ok (.iconst 0, 1) := by decide +kernel
theorem dL_law_483 : decode cL_law 483 = .ok (.if_icmp .eq 5, 3) := by decide +kernel
theorem dL_law_486 : decode cL_law 486 = .ok (.iconst 0, 1) := by decide +kernel
theorem dL_law_487 : decode cL_law 487 = .ok (.ireturn, 1) := by decide +kernel
theorem dL_law_488 : decode cL_law 488 = .ok (.iconst 0, 1) := by decide +kernel
theorem dL_law_489 : decode cL_law 489 = .ok (.istore 13, 2) := by decide +kernel
theorem dL_law_491 : decode cL_law 491 = .ok (.iload 13, 2) := by decide +kernel
theorem dL_law_493 : decode cL_law 493 = .ok (.bipush 32, 2) := by decide +kernel
theorem dL_law_495 : decode cL_law 495 = .ok (.if_icmp .ge 65, 3) := by decide +kernel
theorem dL_law_498 : decode cL_law 498 = .ok (.iload 12, 2) := by decide +kernel
theorem dL_law_500 : decode cL_law 500 = .ok (.ifCond .lt 60, 3) := by decide +kernel
theorem dL_law_503 : decode cL_law 503 = .ok (.aload 10, 2) := by decide +kernel
theorem dL_law_505 : decode cL_law 505 = .ok (.iload 13, 2) := by decide +kernel
theorem dL_law_507 : decode cL_law 507 = .ok (.iaload, 1) := by decide +kernel
theorem dL_law_508 : decode cL_law 508 = .ok (.ifCond .lt 46, 3) := by decide +kernel
theorem dL_law_511 : decode cL_law 511 = .ok (.aload_n 1, 1) := by decide +kernel
theorem dL_law_512 : decode cL_law 512 = .ok (.iload 13, 2) := by decide +kernel
theorem dL_law_514 : decode cL_law 514 = .ok (.iconst 5, 1) := by decide +kernel
theorem dL_law_515 : decode cL_law 515 = .ok (.invokevirtual 62, 3) := by decide +kernel
theorem dL_law_518 : decode cL_law 518 = .ok (.aload_n 1, 1) := by decide +kernel
theorem dL_law_519 : decode cL_law 519 = .ok (.iload 12, 2) := by decide +kernel
theorem dL_law_521 : decode cL_law 521 = .ok (.iconst 5, 1) := by decide +kernel
theorem dL_law_522 : decode cL_law 522 = .ok (.invokevirtual 62, 3) := by decide +kernel
theorem dL_law_525 : decode cL_law 525 = .ok (.if_icmp .lt 27, 3) := by decide +kernel
theorem dL_law_528 : decode cL_law 528 = .ok (.aload_n 1, 1) := by decide +kernel
theorem dL_law_529 : decode cL_law 529 = .ok (.iload 13, 2) := by decide +kernel
theorem dL_law_531 : decode cL_law 531 = .ok (.iconst 5, 1) := by decide +kernel
theorem dL_law_532 : decode cL_law 532 = .ok (.invokevirtual 62, 3) := by decide +kernel
theorem dL_law_535 : decode cL_law 535 = .ok (.aload_n 1, 1) := by decide +kernel
theorem dL_law_536 : decode cL_law 536 = .ok (.iload 12, 2) := by decide +kernel
theorem dL_law_538 : decode cL_law 538 = .ok (.iconst 5, 1) := by decide +kernel
theorem dL_law_539 : decode cL_law 539 = .ok (.invokevirtual 62, 3) := by decide +kernel
theorem dL_law_542 : decode cL_law 542 = .ok (.if_icmp .ne 12, 3) := by decide +kernel
theorem dL_law_545 : decode cL_law 545 = .ok (.iload 13, 2) := by decide +kernel
theorem dL_law_547 : decode cL_law 547 = .ok (.iload 12, 2) := by decide +kernel
theorem dL_law_549 : decode cL_law 549 = .ok (.if_icmp .ge 5, 3) := by decide +kernel
theorem dL_law_552 : decode cL_law 552 = .ok (.iconst 0, 1) := by decide +kernel
theorem dL_law_553 : decode cL_law 553 = .ok (.ireturn, 1) := by decide +kernel
theorem dL_law_554 : decode cL_law 554 = .ok (.iinc 13 1, 3) := by decide +kernel
theorem dL_law_557 : decode cL_law 557 = .ok (.goto (-66), 3) := by decide +kernel
theorem dL_law_560 : decode cL_law 560 = .ok (.aload_n 1, 1) := by decide +kernel
theorem dL_law_561 : decode cL_law 561 = .ok (.iconst 0, 1) := by decide +kernel
theorem dL_law_562 : decode cL_law 562 = .ok (.invokevirtual 79, 3) := by decide +kernel
theorem dL_law_565 : decode cL_law 565 = .ok (.istore 13, 2) := by decide +kernel
theorem dL_law_567 : decode cL_law 567 = .ok (.aload_n 1, 1) := by decide +kernel
theorem dL_law_568 : decode cL_law 568 = .ok (.iconst 3, 1) := by decide +kernel
theorem dL_law_569 : decode cL_law 569 = .ok (.invokevirtual 79, 3) := by decide +kernel
theorem dL_law_572 : decode cL_law 572 = .ok (.istore 14, 2) := by decide +kernel
theorem dL_law_574 : decode cL_law 574 = .ok (.aload_n 1, 1) := by decide +kernel
theorem dL_law_575 : decode cL_law 575 = .ok (.iconst 4, 1) := by decide +kernel
theorem dL_law_576 : decode cL_law 576 = .ok (.invokevirtual 79, 3) := by decide +kernel
theorem dL_law_579 : decode cL_law 579 = .ok (.istore 15, 2) := by decide +kernel
theorem dL_law_581 : decode cL_law 581 = .ok (.aload_n 1, 1) := by decide +kernel
theorem dL_law_582 : decode cL_law 582 = .ok (.bipush 6, 2) := by decide +kernel
theorem dL_law_584 : decode cL_law 584 = .ok (.invokevirtual 79, 3) := by decide +kernel
theorem dL_law_587 : decode cL_law 587 = .ok (.istore 16, 2) := by decide +kernel
theorem dL_law_589 : decode cL_law 589 = .ok (.aload_n 1, 1) := by decide +kernel
theorem dL_law_590 : decode cL_law 590 = .ok (.iconst 2, 1) := by decide +kernel
theorem dL_law_591 : decode cL_law 591 = .ok (.invokevirtual 79, 3) := by decide +kernel
theorem dL_law_594 : decode cL_law 594 = .ok (.istore 17, 2) := by decide +kernel
theorem dL_law_596 : decode cL_law 596 = .ok (.iload 4, 2) := by decide +kernel
theorem dL_law_598 : decode cL_law 598 = .ok (.bipush 6, 2) := by decide +kernel
theorem dL_law_600 : decode cL_law 600 = .ok (.ishr, 1) := by decide +kernel
theorem dL_law_601 : decode cL_law 601 = .ok (.bipush 32, 2) := by decide +kernel
theorem dL_law_603 : decode cL_law 603 = .ok (.invokestatic 9, 3) := by decide +kernel
theorem dL_law_606 : decode cL_law 606 = .ok (.istore 18, 2) := by decide +kernel
theorem dL_law_608 : decode cL_law 608 = .ok (.aload_n 1, 1) := by decide +kernel
theorem dL_law_609 : decode cL_law 609 = .ok (.iload 7, 2) := by decide +kernel
theorem dL_law_611 : decode cL_law 611 = .ok (.iload 18, 2) := by decide +kernel
theorem dL_law_613 : decode cL_law 613 = .ok (.bipush 9, 2) := by decide +kernel
theorem dL_law_615 : decode cL_law 615 = .ok (.invokevirtual 82, 3) := by decide +kernel
theorem dL_law_618 : decode cL_law 618 = .ok (.istore 19, 2) := by decide +kernel
theorem dL_law_620 : decode cL_law 620 = .ok (.aload_n 1, 1) := by decide +kernel
theorem dL_law_621 : decode cL_law 621 = .ok (.iconst 1, 1) := by decide +kernel
theorem dL_law_622 : decode cL_law 622 = .ok (.invokevirtual 79, 3) := by decide +kernel
theorem dL_law_625 : decode cL_law 625 = .ok (.iconst 2, 1) := by decide +kernel
theorem dL_law_626 : decode cL_law 626 = .ok (.iload 13, 2) := by decide +kernel
theorem dL_law_628 : decode cL_law 628 = .ok (.imul, 1) := by decide +kernel
theorem dL_law_629 : decode cL_law 629 = .ok (.iconst 1, 1) := by decide +kernel
theorem dL_law_630 : decode cL_law 630 = .ok (.iadd, 1) := by decide +kernel
theorem dL_law_631 : decode cL_law 631 = .ok (.if_icmp .ne 79, 3) := by decide +kernel
theorem dL_law_634 : decode cL_law 634 = .ok (.aload_n 1, 1) := by decide +kernel
theorem dL_law_635 : decode cL_law 635 = .ok (.invokevirtual 85, 3) := by decide +kernel
theorem dL_law_638 : decode cL_law 638 = .ok (.iconst 5, 1) := by decide +kernel
theorem dL_law_639 : decode cL_law 639 = .ok (.iload 14, 2) := by decide +kernel
theorem dL_law_641 : decode cL_law 641 = .ok (.imul, 1) := by decide +kernel
theorem dL_law_642 : decode cL_law 642 = .ok (.iload 15, 2) := by decide +kernel
theorem dL_law_644 : decode cL_law 644 = .ok (.isub, 1) := by decide +kernel
theorem dL_law_645 : decode cL_law 645 = .ok (.if_icmp .ne 65, 3) := by decide +kernel
theorem dL_law_648 : decode cL_law 648 = .ok (.aload_n 1, 1) := by decide +kernel
theorem dL_law_649 : decode cL_law 649 = .ok (.invokevirtual 88, 3) := by decide +kernel
theorem dL_law_652 : decode cL_law 652 = .ok (.iload 14, 2) := by decide +kernel
theorem dL_law_654 : decode cL_law 654 = .ok (.ifCond .ne 7, 3) := by decide +kernel
theorem dL_law_657 : decode cL_law 657 = .ok (.dconst 0, 1) := by decide +kernel
theorem dL_law_658 : decode cL_law 658 = .ok (.goto 10, 3) := by decide +kernel
theorem dL_law_661 : decode cL_law 661 = .ok (.iload 15, 2) := by decide +kernel
theorem dL_law_663 : decode cL_law 663 = .ok (.i2d, 1) := by decide +kernel
theorem dL_law_664 : decode cL_law 664 = .ok (.iload 14, 2) := by decide +kernel
theorem dL_law_666 : decode cL_law 666 = .ok (.i2d, 1) := by decide +kernel
theorem dL_law_667 : decode cL_law 667 = .ok (.ddiv, 1) := by decide +kernel
theorem dL_law_668 : decode cL_law 668 = .ok (.dcmp .l, 1) := by decide +kernel
theorem dL_law_669 : decode cL_law 669 = .ok (.ifCond .ne 41, 3) := by decide +kernel
theorem dL_law_672 : decode cL_law 672 = .ok (.aload_n 1, 1) := by decide +kernel
theorem dL_law_673 : decode cL_law 673 = .ok (.iload 7, 2) := by decide +kernel
theorem dL_law_675 : decode cL_law 675 = .ok (.iconst 0, 1) := by decide +kernel
theorem dL_law_676 : decode cL_law 676 = .ok (.iconst 1, 1) := by decide +kernel
theorem dL_law_677 : decode cL_law 677 = .ok (.invokevirtual 92, 3) := by decide +kernel
theorem dL_law_680 : decode cL_law 680 = .ok (.iload 8, 2) := by decide +kernel
theorem dL_law_682 : decode cL_law 682 = .ok (.if_icmp .ne 28, 3) := by decide +kernel
theorem dL_law_685 : decode cL_law 685 = .ok (.iload 19, 2) := by decide +kernel
theorem dL_law_687 : decode cL_law 687 = .ok (.bipush 8, 2) := by decide +kernel
theorem dL_law_689 : decode cL_law 689 = .ok (.if_icmp .lt 21, 3) := by decide +kernel
theorem dL_law_692 : decode cL_law 692 = .ok (.iload 19, 2) := by decide +kernel
theorem dL_law_694 : decode cL_law 694 = .ok (.sipush 128, 3) := by decide +kernel
theorem dL_law_697 : decode cL_law 697 = .ok (.if_icmp .gt 13, 3) := by decide +kernel
theorem dL_law_700 : decode cL_law 700 = .ok (.aload_n 1, 1) := by decide +kernel
theorem dL_law_701 : decode cL_law 701 = .ok (.invokevirtual 58, 3) := by decide +kernel
theorem dL_law_704 : decode cL_law 704 = .ok (.lload 5, 2) := by decide +kernel
theorem dL_law_706 : decode cL_law 706 = .ok (.lcmp, 1) := by decide +kernel
theorem dL_law_707 : decode cL_law 707 = .ok (.ifCond .eq 5, 3) := by decide +kernel
theorem dL_law_710 : decode cL_law 710 = .ok (.iconst 0, 1) := by decide +kernel
theorem dL_law_711 : decode cL_law 711 = .ok (.ireturn, 1) := by decide +kernel
theorem dL_law_712 : decode cL_law 712 = .ok (.aload_n 1, 1) := by decide +kernel
theorem dL_law_713 : decode cL_law 713 = .ok (.iload 7, 2) := by decide +kernel
theorem dL_law_715 : decode cL_law 715 = .ok (.invokevirtual 40, 3) := by decide +kernel
theorem dL_law_718 : decode cL_law 718 = .ok (.iload 8, 2) := by decide +kernel
theorem dL_law_720 : decode cL_law 720 = .ok (.if_icmp .ne 39, 3) := by decide +kernel
theorem dL_law_723 : decode cL_law 723 = .ok (.aload_n 2, 1) := by decide +kernel
theorem dL_law_724 : decode cL_law 724 = .ok (.iload 7, 2) := by decide +kernel
theorem dL_law_726 : decode cL_law 726 = .ok (.invokevirtual 43, 3) := by decide +kernel
theorem dL_law_729 : decode cL_law 729 = .ok (.iload 8, 2) := by decide +kernel
theorem dL_law_731 : decode cL_law 731 = .ok (.if_icmp .ne 28, 3) := by decide +kernel
theorem dL_law_734 : decode cL_law 734 = .ok (.aload_n 1, 1) := by decide +kernel
theorem dL_law_735 : decode cL_law 735 = .ok (.iconst 3, 1) := by decide +kernel
theorem dL_law_736 : decode cL_law 736 = .ok (.invokevirtual 79, 3) := by decide +kernel
theorem dL_law_739 : decode cL_law 739 = .ok (.iload 14, 2) := by decide +kernel
theorem dL_law_741 : decode cL_law 741 = .ok (.iconst 1, 1) := by decide +kernel
theorem dL_law_742 : decode cL_law 742 = .ok (.iadd, 1) := by decide +kernel
theorem dL_law_743 : decode cL_law 743 = .ok (.if_icmp .ne 16, 3) := by decide +kernel
theorem dL_law_746 : decode cL_law 746 = .ok (.aload_n 1, 1) := by decide +kernel
theorem dL_law_747 : decode cL_law 747 = .ok (.iconst 4, 1) := by decide +kernel
theorem dL_law_748 : decode cL_law 748 = .ok (.invokevirtual 79, 3) := by decide +kernel
theorem dL_law_751 : decode cL_law 751 = .ok (.iload 15, 2) := by decide +kernel
theorem dL_law_753 : decode cL_law 753 = .ok (.iload 8, 2) := by decide +kernel
theorem dL_law_755 : decode cL_law 755 = .ok (.iadd, 1) := by decide +kernel
theorem dL_law_756 : decode cL_law 756 = .ok (.if_icmp .eq 5, 3) := by decide +kernel
theorem dL_law_759 : decode cL_law 759 = .ok (.iconst 0, 1) := by decide +kernel
theorem dL_law_760 : decode cL_law 760 = .ok (.ireturn, 1) := by decide +kernel
theorem dL_law_761 : decode cL_law 761 = .ok (.aload_n 1, 1) := by decide +kernel
theorem dL_law_762 : decode cL_law 762 = .ok (.bipush 6, 2) := by decide +kernel
theorem dL_law_764 : decode cL_law 764 = .ok (.invokevirtual 79, 3) := by decide +kernel
theorem dL_law_767 : decode cL_law 767 = .ok (.iload 16, 2) := by decide +kernel
theorem dL_law_769 : decode cL_law 769 = .ok (.if_icmp .le 7, 3) := by decide +kernel
theorem dL_law_772 : decode cL_law 772 = .ok (.iconst 1, 1) := by decide +kernel
theorem dL_law_773 : decode cL_law 773 = .ok (.goto 4, 3) := by decide +kernel
theorem dL_law_776 : decode cL_law 776 = .ok (.iconst 0, 1) := by decide +kernel
theorem dL_law_777 : decode cL_law 777 = .ok (.istore 20, 2) := by decide +kernel
theorem dL_law_779 : decode cL_law 779 = .ok (.iload 20, 2) := by decide +kernel
theorem dL_law_781 : decode cL_law 781 = .ok (.iload 17, 2) := by decide +kernel
theorem dL_law_783 : decode cL_law 783 = .ok (.iconst 1, 1) := by decide +kernel
theorem dL_law_784 : decode cL_law 784 = .ok (.iadd, 1) := by decide +kernel
theorem dL_law_785 : decode cL_law 785 = .ok (.aload_n 1, 1) := by decide +kernel
theorem dL_law_786 : decode cL_law 786 = .ok (.bipush 7, 2) := by decide +kernel
theorem dL_law_788 : decode cL_law 788 = .ok (.invokevirtual 79, 3) := by decide +kernel
theorem dL_law_791 : decode cL_law 791 = .ok (.if_icmp .lt 7, 3) := by decide +kernel
theorem dL_law_794 : decode cL_law 794 = .ok (.iconst 1, 1) := by decide +kernel
theorem dL_law_795 : decode cL_law 795 = .ok (.goto 4, 3) := by decide +kernel
theorem dL_law_798 : decode cL_law 798 = .ok (.iconst 0, 1) := by decide +kernel
theorem dL_law_799 : decode cL_law 799 = .ok (.if_icmp .ne 16, 3) := by decide +kernel
theorem dL_law_802 : decode cL_law 802 = .ok (.aload_n 1, 1) := by decide +kernel
theorem dL_law_803 : decode cL_law 803 = .ok (.bipush 6, 2) := by decide +kernel
theorem dL_law_805 : decode cL_law 805 = .ok (.invokevirtual 79, 3) := by decide +kernel
theorem dL_law_808 : decode cL_law 808 = .ok (.iload 16, 2) := by decide +kernel
theorem dL_law_810 : decode cL_law 810 = .ok (.iconst 1, 1) := by decide +kernel
theorem dL_law_811 : decode cL_law 811 = .ok (.iadd, 1) := by decide +kernel
theorem dL_law_812 : decode cL_law 812 = .ok (.if_icmp .le 5, 3) := by decide +kernel
theorem dL_law_815 : decode cL_law 815 = .ok (.iconst 0, 1) := by decide +kernel
theorem dL_law_816 : decode cL_law 816 = .ok (.ireturn, 1) := by decide +kernel
theorem dL_law_817 : decode cL_law 817 = .ok (.iconst 0, 1) := by decide +kernel
theorem dL_law_818 : decode cL_law 818 = .ok (.istore 21, 2) := by decide +kernel
theorem dL_law_820 : decode cL_law 820 = .ok (.iload 21, 2) := by decide +kernel
theorem dL_law_822 : decode cL_law 822 = .ok (.bipush 32, 2) := by decide +kernel
theorem dL_law_824 : decode cL_law 824 = .ok (.if_icmp .ge 77, 3) := by decide +kernel
theorem dL_law_827 : decode cL_law 827 = .ok (.iload 21, 2) := by decide +kernel
theorem dL_law_829 : decode cL_law 829 = .ok (.iload 7, 2) := by decide +kernel
theorem dL_law_831 : decode cL_law 831 = .ok (.if_icmp .ne 17, 3) := by decide +kernel
theorem dL_law_834 : decode cL_law 834 = .ok (.iconst 0, 1) := by decide +kernel
theorem dL_law_835 : decode cL_law 835 = .ok (.aload 10, 2) := by decide +kernel
theorem dL_law_837 : decode cL_law 837 = .ok (.iload 21, 2) := by decide +kernel
theorem dL_law_839 : decode cL_law 839 = .ok (.iaload, 1) := by decide +kernel
theorem dL_law_840 : decode cL_law 840 = .ok (.invokestatic 95, 3) := by decide +kernel
theorem dL_law_843 : decode cL_law 843 = .ok (.iconst 1, 1) := by decide +kernel
theorem dL_law_844 : decode cL_law 844 = .ok (.iadd, 1) := by decide +kernel
theorem dL_law_845 : decode cL_law 845 = .ok (.goto 8, 3) := by decide +kernel
theorem dL_law_848 : decode cL_law 848 = .ok (.aload 10, 2) := by decide +kernel
theorem dL_law_850 : decode cL_law 850 = .ok (.iload 21, 2) := by decide +kernel
theorem dL_law_852 : decode cL_law 852 = .ok (.iaload, 1) := by decide +kernel
theorem dL_law_853 : decode cL_law 853 = .ok (.istore 22, 2) := by decide +kernel
theorem dL_law_855 : decode cL_law 855 = .ok (.iload 20, 2) := by decide +kernel
theorem dL_law_857 : decode cL_law 857 = .ok (.ifCond .eq 24, 3) := by decide +kernel
theorem dL_law_860 : decode cL_law 860 = .ok (.iload 22, 2) := by decide +kernel
theorem dL_law_862 : decode cL_law 862 = .ok (.ifCond .lt 19, 3) := by decide +kernel
theorem dL_law_865 : decode cL_law 865 = .ok (.iload 22, 2) := by decide +kernel
theorem dL_law_867 : decode cL_law 867 = .ok (.iconst 2, 1) := by decide +kernel
theorem dL_law_868 : decode cL_law 868 = .ok (.if_icmp .ge 7, 3) := by decide +kernel
theorem dL_law_871 : decode cL_law 871 = .ok (.iconst (-1), 1) := by decide +kernel
theorem dL_law_872 : decode cL_law 872 = .ok (.goto 7, 3) := by decide +kernel
theorem dL_law_875 : decode cL_law 875 = .ok (.iload 22, 2) := by decide +kernel
theorem dL_law_877 : decode cL_law 877 = .ok (.iconst 2, 1) := by decide +kernel
theorem dL_law_878 : decode cL_law 878 = .ok (.idiv, 1) := by decide +kernel
theorem dL_law_879 : decode cL_law 879 = .ok (.istore 22, 2) := by decide +kernel
theorem dL_law_881 : decode cL_law 881 = .ok (.aload_n 1, 1) := by decide +kernel
theorem dL_law_882 : decode cL_law 882 = .ok (.iload 21, 2) := by decide +kernel
theorem dL_law_884 : decode cL_law 884 = .ok (.iconst 0, 1) := by decide +kernel
theorem dL_law_885 : decode cL_law 885 = .ok (.invokevirtual 62, 3) := by decide +kernel
theorem dL_law_888 : decode cL_law 888 = .ok (.iload 22, 2) := by decide +kernel
theorem dL_law_890 : decode cL_law 890 = .ok (.if_icmp .eq 5, 3) := by decide +kernel
theorem dL_law_893 : decode cL_law 893 = .ok (.iconst 0, 1) := by decide +kernel
theorem dL_law_894 : decode cL_law 894 = .ok (.ireturn, 1) := by decide +kernel
theorem dL_law_895 : decode cL_law 895 = .ok (.iinc 21 1, 3) := by decide +kernel
theorem dL_law_898 : decode cL_law 898 = .ok (.goto (-78), 3) := by decide +kernel
theorem dL_law_901 : decode cL_law 901 = .ok (.iload 20, 2) := by decide +kernel
theorem dL_law_903 : decode cL_law 903 = .ok (.ifCond .ne 41, 3) := by decide +kernel
theorem dL_law_906 : decode cL_law 906 = .ok (.aload_n 1, 1) := by decide +kernel
theorem dL_law_907 : decode cL_law 907 = .ok (.iconst 0, 1) := by decide +kernel
theorem dL_law_908 : decode cL_law 908 = .ok (.invokevirtual 79, 3) := by decide +kernel
theorem dL_law_911 : decode cL_law 911 = .ok (.iload 13, 2) := by decide +kernel
theorem dL_law_913 : decode cL_law 913 = .ok (.aload 10, 2) := by decide +kernel
theorem dL_law_915 : decode cL_law 915 = .ok (.iload 7, 2) := by decide +kernel
theorem dL_law_917 : decode cL_law 917 = .ok (.iaload, 1) := by decide +kernel
theorem dL_law_918 : decode cL_law 918 = .ok (.ifCond .ge 7, 3) := by decide +kernel
theorem dL_law_921 : decode cL_law 921 = .ok (.iconst 1, 1) := by decide +kernel
theorem dL_law_922 : decode cL_law 922 = .ok (.goto 4, 3) := by decide +kernel
theorem dL_law_925 : decode cL_law 925 = .ok (.iconst 0, 1) := by decide +kernel
theorem dL_law_926 : decode cL_law 926 = .ok (.iadd, 1) := by decide +kernel
theorem dL_law_927 : decode cL_law 927 = .ok (.if_icmp .ne 15, 3) := by decide +kernel
theorem dL_law_930 : decode cL_law 930 = .ok (.aload_n 1, 1) := by decide +kernel
theorem dL_law_931 : decode cL_law 931 = .ok (.iconst 2, 1) := by decide +kernel
theorem dL_law_932 : decode cL_law 932 = .ok (.invokevirtual 79, 3) := by decide +kernel
theorem dL_law_935 : decode cL_law 935 = .ok (.iload 17, 2) := by decide +kernel
theorem dL_law_937 : decode cL_law 937 = .ok (.iconst 1, 1) := by decide +kernel
theorem dL_law_938 : decode cL_law 938 = .ok (.iadd, 1) := by decide +kernel
theorem dL_law_939 : decode cL_law 939 = .ok (.if_icmp .eq 5, 3) := by decide +kernel
theorem dL_law_942 : decode cL_law 942 = .ok (.iconst 0, 1) := by decide +kernel
theorem dL_law_943 : decode cL_law 943 = .ok (.ireturn, 1) := by decide +kernel
theorem dL_law_944 : decode cL_law 944 = .ok (.iinc 3 1, 3) := by decide +kernel
theorem dL_law_947 : decode cL_law 947 = .ok (.goto (-925), 3) := by decide +kernel
theorem dL_law_950 : decode cL_law 950 = .ok (.aload_n 2, 1) := by decide +kernel
theorem dL_law_951 : decode cL_law 951 = .ok (.aload_n 1, 1) := by decide +kernel
theorem dL_law_952 : decode cL_law 952 = .ok (.invokevirtual 100, 3) := by decide +kernel
theorem dL_law_955 : decode cL_law 955 = .ok (.ireturn, 1) := by decide +kernel
