theorem dL_cell_0 : decode cL_cell 0 = .ok (.iload_n 1, 1) := by decide +kernel
theorem dL_cell_1 : decode cL_cell 1 = .ok (.aload_n 0, 1) := by decide +kernel
theorem dL_cell_2 : decode cL_cell 2 = .ok (.arraylength, 1) := by decide +kernel
theorem dL_cell_3 : decode cL_cell 3 = .ok (.if_icmp .ge 9, 3) := by decide +kernel
theorem dL_cell_6 : decode cL_cell 6 = .ok (.aload_n 0, 1) := by decide +kernel
theorem dL_cell_7 : decode cL_cell 7 = .ok (.iload_n 1, 1) := by decide +kernel
theorem dL_cell_8 : decode cL_cell 8 = .ok (.iaload, 1) := by decide +kernel
theorem dL_cell_9 : decode cL_cell 9 = .ok (.goto 10, 3) := by decide +kernel
theorem dL_cell_12 : decode cL_cell 12 = .ok (.ldc 7, 2) := by decide +kernel
theorem dL_cell_14 : decode cL_cell 14 = .ok (.iload_n 1, 1) := by decide +kernel
theorem dL_cell_15 : decode cL_cell 15 = .ok (.imul, 1) := by decide +kernel
theorem dL_cell_16 : decode cL_cell 16 = .ok (.ldc 8, 2) := by decide +kernel
theorem dL_cell_18 : decode cL_cell 18 = .ok (.iadd, 1) := by decide +kernel
theorem dL_cell_19 : decode cL_cell 19 = .ok (.ireturn, 1) := by decide +kernel
theorem dL_low_0 : decode cL_low 0 = .ok (.iload_n 0, 1) := by decide +kernel
theorem dL_low_1 : decode cL_low 1 = .ok (.ldc 9, 2) := by decide +kernel
theorem dL_low_3 : decode cL_low 3 = .ok (.iand, 1) := by decide +kernel
theorem dL_low_4 : decode cL_low 4 = .ok (.iload_n 1, 1) := by decide +kernel
theorem dL_low_5 : decode cL_low 5 = .ok (.irem, 1) := by decide +kernel
theorem dL_low_6 : decode cL_low 6 = .ok (.ireturn, 1) := by decide +kernel
set_option maxRecDepth 20000 in
theorem ggL_coal_X5_delivered : GoodIn wsL_coal wsX5_delivered := goodIn_r _ [5, 6, 82, 83, 84, 85, 86, 87, 88] (by decide +kernel) (by decide +kernel)
set_option maxRecDepth 20000 in
theorem gL_coal_X5_delivered : GoodIn wsL_coal (wsV RL 10 RX5 yX5_delivered wsX5_delivered) := goodIn_app (goodIn_of _ (by decide +kernel)) ggL_coal_X5_delivered
set_option maxRecDepth 20000 in
theorem ggL_coal_X5_coalIn : GoodIn wsL_coal wsX5_coalIn := goodIn_ca (goodIn_r _ [10, 11, 12, 13, 14, 4, 15, 16, 17, 18, 19, 20, 21, 22, 23, 24, 25, 26, 27, 28, 29, 30, 31, 32, 33, 34, 35, 36, 37, 38, 39, 40, 41, 42, 89, 82, 83, 84, 85, 86, 87, 88, 90, 91, 92] (by decide +kernel) (by decide +kernel)) (goodIn_sub (fun _ h => List.mem_cons_of_mem _ (List.mem_append_right _ h)) (by decide +kernel))
set_option maxRecDepth 20000 in
theorem gL_coal_X5_coalIn : GoodIn wsL_coal (wsV RL 16 RX5 yX5_coalIn wsX5_coalIn) := goodIn_app (goodIn_of _ (by decide +kernel)) ggL_coal_X5_coalIn
set_option maxRecDepth 20000 in
theorem ggL_coal_X5_loadOf : GoodIn wsL_coal wsX5_loadOf := goodIn_ca (goodIn_r _ [46, 47, 48, 49, 50, 4, 51, 16, 17, 52, 53, 20, 21, 22, 23, 24, 25, 26, 27, 28, 29, 30, 31, 32, 33, 34, 35, 36, 37, 38, 39, 40, 41, 42, 93, 94, 95, 96, 97, 98, 99, 82, 83, 84, 85, 86, 87, 88, 90, 91, 92] (by decide +kernel) (by decide +kernel)) (goodIn_sub (fun _ h => List.mem_cons_of_mem _ (List.mem_append_right _ h)) (by decide +kernel))
set_option maxRecDepth 20000 in
theorem gL_coal_X5_loadOf : GoodIn wsL_coal (wsV RL 20 RX5 yX5_loadOf wsX5_loadOf) := goodIn_app (goodIn_of _ (by decide +kernel)) ggL_coal_X5_loadOf
set_option maxRecDepth 20000 in
theorem ggL_coal_X5_dustIn : GoodIn wsL_coal wsX5_dustIn := goodIn_ca (goodIn_r _ [57, 58, 48, 49, 50, 4, 51, 16, 17, 52, 53, 20, 21, 22, 23, 24, 25, 26, 27, 28, 29, 30, 31, 32, 33, 34, 35, 36, 37, 38, 39, 40, 41, 42, 93, 94, 95, 96, 97, 98, 99, 82, 83, 84, 85, 86, 87, 88, 90, 91, 92] (by decide +kernel) (by decide +kernel)) (goodIn_sub (fun _ h => List.mem_cons_of_mem _ (List.mem_append_right _ h)) (by decide +kernel))
set_option maxRecDepth 20000 in
theorem gL_coal_X5_dustIn : GoodIn wsL_coal (wsV RL 23 RX5 yX5_dustIn wsX5_dustIn) := goodIn_app (goodIn_of _ (by decide +kernel)) ggL_coal_X5_dustIn
set_option maxRecDepth 20000 in
theorem ggL_coal_X5_gangOn : GoodIn wsL_coal wsX5_gangOn := goodIn_ca (goodIn_r _ [62, 63, 64, 65, 48, 49, 50, 4, 51, 16, 17, 52, 53, 20, 21, 22, 23, 24, 25, 26, 27, 28, 29, 30, 31, 32, 33, 34, 35, 36, 37, 38, 39, 40, 41, 42, 93, 94, 95, 96, 97, 98, 99, 100, 101, 102, 103, 104, 105, 106, 82, 83, 84, 85, 86, 87, 88, 90, 91, 92] (by decide +kernel) (by decide +kernel)) (goodIn_sub (fun _ h => List.mem_cons_of_mem _ (List.mem_append_right _ h)) (by decide +kernel))
set_option maxRecDepth 20000 in
theorem gL_coal_X5_gangOn : GoodIn wsL_coal (wsV RL 26 RX5 yX5_gangOn wsX5_gangOn) := goodIn_app (goodIn_of _ (by decide +kernel)) ggL_coal_X5_gangOn
set_option maxRecDepth 20000 in
theorem ggL_coal_X5_placeOf : GoodIn wsL_coal wsX5_placeOf := goodIn_ca (goodIn_r _ [69, 70, 48, 49, 50, 4, 51, 16, 17, 52, 53, 20, 21, 22, 23, 24, 25, 26, 27, 28, 29, 30, 31, 32, 33, 34, 35, 36, 37, 38, 39, 40, 41, 42, 93, 94, 95, 96, 97, 98, 99, 82, 83, 84, 85, 86, 87, 88, 90, 91, 92] (by decide +kernel) (by decide +kernel)) (goodIn_sub (fun _ h => List.mem_cons_of_mem _ (List.mem_append_right _ h)) (by decide +kernel))
set_option maxRecDepth 20000 in
theorem gL_coal_X5_placeOf : GoodIn wsL_coal (wsV RL 29 RX5 yX5_placeOf wsX5_placeOf) := goodIn_app (goodIn_of _ (by decide +kernel)) ggL_coal_X5_placeOf
set_option maxRecDepth 20000 in
theorem ggL_coal_X5_restOf : GoodIn wsL_coal wsX5_restOf := goodIn_ca (goodIn_r _ [74, 75, 76, 77, 78, 4, 79, 16, 17, 80, 81, 20, 21, 22, 23, 24, 25, 26, 27, 28, 29, 30, 31, 32, 33, 34, 35, 36, 37, 38, 39, 40, 41, 42, 102, 103, 104, 105, 106, 82, 83, 84, 85, 86, 87, 88, 90, 91, 92] (by decide +kernel) (by decide +kernel)) (goodIn_sub (fun _ h => List.mem_cons_of_mem _ (List.mem_append_right _ h)) (by decide +kernel))
set_option maxRecDepth 20000 in
theorem gL_coal_X5_restOf : GoodIn wsL_coal (wsV RL 32 RX5 yX5_restOf wsX5_restOf) := goodIn_app (goodIn_of _ (by decide +kernel)) ggL_coal_X5_restOf
theorem dL_coal_0 : decode cL_coal 0 = .ok (.aload_n 0, 1) := by decide +kernel
theorem dL_coal_1 : decode cL_coal 1 = .ok (.invokevirtual 10, 3) := by decide +kernel
theorem dL_coal_4 : decode cL_coal 4 = .ok (.istore 5, 2) := by decide +kernel
theorem dL_coal_6 : decode cL_coal 6 = .ok (.iconst 0, 1) := by decide +kernel
theorem dL_coal_7 : decode cL_coal 7 = .ok (.istore 6, 2) := by decide +kernel
theorem dL_coal_9 : decode cL_coal 9 = .ok (.iload 6, 2) := by decide +kernel
theorem dL_coal_11 : decode cL_coal 11 = .ok (.iload_n 2, 1) := by decide +kernel
theorem dL_coal_12 : decode cL_coal 12 = .ok (.if_icmp .ge 31, 3) := by decide +kernel
theorem dL_coal_15 : decode cL_coal 15 = .ok (.iload 5, 2) := by decide +kernel
theorem dL_coal_17 : decode cL_coal 17 = .ok (.aload_n 0, 1) := by decide +kernel
theorem dL_coal_18 : decode cL_coal 18 = .ok (.iload 6, 2) := by decide +kernel
theorem dL_coal_20 : decode cL_coal 20 = .ok (.invokevirtual 16, 3) := by decide +kernel
theorem dL_coal_23 : decode cL_coal 23 = .ok (.iadd, 1) := by decide +kernel
theorem dL_coal_24 : decode cL_coal 24 = .ok (.istore 5, 2) := by decide +kernel
theorem dL_coal_26 : decode cL_coal 26 = .ok (.aload_n 0, 1) := by decide +kernel
theorem dL_coal_27 : decode cL_coal 27 = .ok (.iload 6, 2) := by decide +kernel
theorem dL_coal_29 : decode cL_coal 29 = .ok (.invokevirtual 16, 3) := by decide +kernel
theorem dL_coal_32 : decode cL_coal 32 = .ok (.ifCond .ge 5, 3) := by decide +kernel
theorem dL_coal_35 : decode cL_coal 35 = .ok (.iconst 0, 1) := by decide +kernel
theorem dL_coal_36 : decode cL_coal 36 = .ok (.ireturn, 1) := by decide +kernel
theorem dL_coal_37 : decode cL_coal 37 = .ok (.iinc 6 1, 3) := by decide +kernel
theorem dL_coal_40 : decode cL_coal 40 = .ok (.goto (-31), 3) := by decide +kernel
theorem dL_coal_43 : decode cL_coal 43 = .ok (.iconst 0, 1) := by decide +kernel
theorem dL_coal_44 : decode cL_coal 44 = .ok (.istore 6, 2) := by decide +kernel
theorem dL_coal_46 : decode cL_coal 46 = .ok (.iload 6, 2) := by decide +kernel
theorem dL_coal_48 : decode cL_coal 48 = .ok (.iload 4, 2) := by decide +kernel
theorem dL_coal_50 : decode cL_coal 50 = .ok (.if_icmp .ge 148, 3) := by decide +kernel
theorem dL_coal_53 : decode cL_coal 53 = .ok (.iload 5, 2) := by decide +kernel
theorem dL_coal_55 : decode cL_coal 55 = .ok (.aload_n 0, 1) := by decide +kernel
theorem dL_coal_56 : decode cL_coal 56 = .ok (.iload 6, 2) := by decide +kernel
theorem dL_coal_58 : decode cL_coal 58 = .ok (.invokevirtual 20, 3) := by decide +kernel
theorem dL_coal_61 : decode cL_coal 61 = .ok (.aload_n 0, 1) := by decide +kernel
theorem dL_coal_62 : decode cL_coal 62 = .ok (.iload 6, 2) := by decide +kernel
theorem dL_coal_64 : decode cL_coal 64 = .ok (.invokevirtual 23, 3) := by decide +kernel
theorem dL_coal_67 : decode cL_coal 67 = .ok (.iadd, 1) := by decide +kernel
theorem dL_coal_68 : decode cL_coal 68 = .ok (.iadd, 1) := by decide +kernel
theorem dL_coal_69 : decode cL_coal 69 = .ok (.istore 5, 2) := by decide +kernel
theorem dL_coal_71 : decode cL_coal 71 = .ok (.aload_n 0, 1) := by decide +kernel
theorem dL_coal_72 : decode cL_coal 72 = .ok (.iload 6, 2) := by decide +kernel
theorem dL_coal_74 : decode cL_coal 74 = .ok (.invokevirtual 26, 3) := by decide +kernel
theorem dL_coal_77 : decode cL_coal 77 = .ok (.ifCond .ge 7, 3) := by decide +kernel
theorem dL_coal_80 : decode cL_coal 80 = .ok (.iconst 1, 1) := by decide +kernel
theorem dL_coal_81 : decode cL_coal 81 = .ok (.goto 4, 3) := by decide +kernel
theorem dL_coal_84 : decode cL_coal 84 = .ok (.iconst 0, 1) := by decide +kernel
theorem dL_coal_85 : decode cL_coal 85 = .ok (.istore 7, 2) := by decide +kernel
theorem dL_coal_87 : decode cL_coal 87 = .ok (.aload_n 0, 1) := by decide +kernel
theorem dL_coal_88 : decode cL_coal 88 = .ok (.iload 6, 2) := by decide +kernel
theorem dL_coal_90 : decode cL_coal 90 = .ok (.invokevirtual 20, 3) := by decide +kernel
theorem dL_coal_93 : decode cL_coal 93 = .ok (.ifCond .lt 39, 3) := by decide +kernel
theorem dL_coal_96 : decode cL_coal 96 = .ok (.aload_n 0, 1) := by decide +kernel
theorem dL_coal_97 : decode cL_coal 97 = .ok (.iload 6, 2) := by decide +kernel
theorem dL_coal_99 : decode cL_coal 99 = .ok (.invokevirtual 20, 3) := by decide +kernel
theorem dL_coal_102 : decode cL_coal 102 = .ok (.aload_n 3, 1) := by decide +kernel
theorem dL_coal_103 : decode cL_coal 103 = .ok (.iload 6, 2) := by decide +kernel
theorem dL_coal_105 : decode cL_coal 105 = .ok (.iaload, 1) := by decide +kernel
theorem dL_coal_106 : decode cL_coal 106 = .ok (.if_icmp .gt 26, 3) := by decide +kernel
theorem dL_coal_109 : decode cL_coal 109 = .ok (.aload_n 0, 1) := by decide +kernel
theorem dL_coal_110 : decode cL_coal 110 = .ok (.iload 6, 2) := by decide +kernel
theorem dL_coal_112 : decode cL_coal 112 = .ok (.invokevirtual 23, 3) := by decide +kernel
theorem dL_coal_115 : decode cL_coal 115 = .ok (.ifCond .lt 17, 3) := by decide +kernel
theorem dL_coal_118 : decode cL_coal 118 = .ok (.iload 7, 2) := by decide +kernel
theorem dL_coal_120 : decode cL_coal 120 = .ok (.ifCond .eq 14, 3) := by decide +kernel
theorem dL_coal_123 : decode cL_coal 123 = .ok (.aload_n 0, 1) := by decide +kernel
theorem dL_coal_124 : decode cL_coal 124 = .ok (.iload 6, 2) := by decide +kernel
theorem dL_coal_126 : decode cL_coal 126 = .ok (.invokevirtual 29, 3) := by decide +kernel
theorem dL_coal_129 : decode cL_coal 129 = .ok (.ifCond .eq 5, 3) := by decide +kernel
theorem dL_coal_132 : decode cL_coal 132 = .ok (.iconst 0, 1) := by decide +kernel
theorem dL_coal_133 : decode cL_coal 133 = .ok (.ireturn, 1) := by decide +kernel
theorem dL_coal_134 : decode cL_coal 134 = .ok (.iconst 0, 1) := by decide +kernel
theorem dL_coal_135 : decode cL_coal 135 = .ok (.istore 8, 2) := by decide +kernel
theorem dL_coal_137 : decode cL_coal 137 = .ok (.iload 8, 2) := by decide +kernel
theorem dL_coal_139 : decode cL_coal 139 = .ok (.iload 6, 2) := by decide +kernel
theorem dL_coal_141 : decode cL_coal 141 = .ok (.if_icmp .ge 31, 3) := by decide +kernel
theorem dL_coal_144 : decode cL_coal 144 = .ok (.iload 7, 2) := by decide +kernel
theorem dL_coal_146 : decode cL_coal 146 = .ok (.ifCond .ne 26, 3) := by decide +kernel
theorem dL_coal_149 : decode cL_coal 149 = .ok (.aload_n 0, 1) := by decide +kernel
theorem dL_coal_150 : decode cL_coal 150 = .ok (.iload 8, 2) := by decide +kernel
theorem dL_coal_152 : decode cL_coal 152 = .ok (.invokevirtual 26, 3) := by decide +kernel
theorem dL_coal_155 : decode cL_coal 155 = .ok (.aload_n 0, 1) := by decide +kernel
theorem dL_coal_156 : decode cL_coal 156 = .ok (.iload 6, 2) := by decide +kernel
theorem dL_coal_158 : decode cL_coal 158 = .ok (.invokevirtual 26, 3) := by decide +kernel
theorem dL_coal_161 : decode cL_coal 161 = .ok (.if_icmp .ne 5, 3) := by decide +kernel
theorem dL_coal_164 : decode cL_coal 164 = .ok (.iconst 0, 1) := by decide +kernel
theorem dL_coal_165 : decode cL_coal 165 = .ok (.ireturn, 1) := by decide +kernel
theorem dL_coal_166 : decode cL_coal 166 = .ok (.iinc 8 1, 3) := by decide +kernel
theorem dL_coal_169 : decode cL_coal 169 = .ok (.goto (-32), 3) := by decide +kernel
theorem dL_coal_172 : decode cL_coal 172 = .ok (.iload 7, 2) := by decide +kernel
theorem dL_coal_174 : decode cL_coal 174 = .ok (.ifCond .ne 18, 3) := by decide +kernel
theorem dL_coal_177 : decode cL_coal 177 = .ok (.aload_n 0, 1) := by decide +kernel
theorem dL_coal_178 : decode cL_coal 178 = .ok (.aload_n 0, 1) := by decide +kernel
theorem dL_coal_179 : decode cL_coal 179 = .ok (.iload 6, 2) := by decide +kernel
theorem dL_coal_181 : decode cL_coal 181 = .ok (.invokevirtual 26, 3) := by decide +kernel
theorem dL_coal_184 : decode cL_coal 184 = .ok (.invokevirtual 32, 3) := by decide +kernel
theorem dL_coal_187 : decode cL_coal 187 = .ok (.ifCond .eq 5, 3) := by decide +kernel
theorem dL_coal_190 : decode cL_coal 190 = .ok (.iconst 0, 1) := by decide +kernel
theorem dL_coal_191 : decode cL_coal 191 = .ok (.ireturn, 1) := by decide +kernel
theorem dL_coal_192 : decode cL_coal 192 = .ok (.iinc 6 1, 3) := by decide +kernel
theorem dL_coal_195 : decode cL_coal 195 = .ok (.goto (-149), 3) := by decide +kernel
theorem dL_coal_198 : decode cL_coal 198 = .ok (.iload 5, 2) := by decide +kernel
theorem dL_coal_200 : decode cL_coal 200 = .ok (.iload_n 1, 1) := by decide +kernel
theorem dL_coal_201 : decode cL_coal 201 = .ok (.if_icmp .ne 7, 3) := by decide +kernel
theorem dL_coal_204 : decode cL_coal 204 = .ok (.iconst 1, 1) := by decide +kernel
theorem dL_coal_205 : decode cL_coal 205 = .ok (.goto 4, 3) := by decide +kernel
theorem dL_coal_208 : decode cL_coal 208 = .ok (.iconst 0, 1) := by decide +kernel
theorem dL_coal_209 : decode cL_coal 209 = .ok (.ireturn, 1) := by decide +kernel
set_option maxRecDepth 20000 in
theorem ggL_ships_X5_fateOf : GoodIn wsL_ships wsX5_fateOf := goodIn_ca (goodIn_r _ [5, 6, 7, 8, 9, 4, 10, 11, 12, 13, 14, 15, 16, 17, 18, 19, 20, 21, 22, 23, 24, 25, 26, 27, 28, 29, 30, 31, 32, 33, 34, 35, 36, 37, 56, 57, 58, 59, 60, 61, 62, 63, 64, 65, 66, 67, 68, 69] (by decide +kernel) (by decide +kernel)) (goodIn_sub (fun _ h => List.mem_cons_of_mem _ (List.mem_append_left _ (List.mem_append_right _ h))) (by decide +kernel))
set_option maxRecDepth 20000 in
theorem gL_ships_X5_fateOf : GoodIn wsL_ships (wsV RL 35 RX5 yX5_fateOf wsX5_fateOf) := goodIn_app (goodIn_of _ (by decide +kernel)) ggL_ships_X5_fateOf
set_option maxRecDepth 20000 in
theorem ggL_ships_X5_wantOf : GoodIn wsL_ships wsX5_wantOf := goodIn_ca (goodIn_r _ [41, 42, 7, 8, 9, 4, 10, 11, 12, 13, 14, 15, 16, 17, 18, 19, 20, 21, 22, 23, 24, 25, 26, 27, 28, 29, 30, 31, 32, 33, 34, 35, 36, 37, 56, 57, 58, 59, 60, 61, 62, 63, 64, 65, 66, 67, 68, 69] (by decide +kernel) (by decide +kernel)) (goodIn_sub (fun _ h => List.mem_cons_of_mem _ (List.mem_append_left _ (List.mem_append_right _ h))) (by decide +kernel))
set_option maxRecDepth 20000 in
theorem gL_ships_X5_wantOf : GoodIn wsL_ships (wsV RL 38 RX5 yX5_wantOf wsX5_wantOf) := goodIn_app (goodIn_of _ (by decide +kernel)) ggL_ships_X5_wantOf
set_option maxRecDepth 20000 in
theorem ggL_ships_X5_outside : GoodIn wsL_ships wsX5_outside := goodIn_ca (goodIn_r _ [46, 47, 48, 49, 14, 6, 50, 15, 16, 17, 18, 19, 20, 21, 22, 23, 24, 25, 26, 27, 28, 29, 30, 31, 32, 33, 34, 35, 36, 37, 60, 61, 62, 63, 64, 65, 66, 56, 57, 58, 59, 67, 68, 69] (by decide +kernel) (by decide +kernel)) (goodIn_sub (fun _ h => List.mem_cons_of_mem _ (List.mem_append_right _ h)) (by decide +kernel))
set_option maxRecDepth 20000 in
theorem gL_ships_X5_outside : GoodIn wsL_ships (wsV RL 41 RX5 yX5_outside wsX5_outside) := goodIn_app (goodIn_of _ (by decide +kernel)) ggL_ships_X5_outside
set_option maxRecDepth 20000 in
theorem ggL_ships_X5_delivered : GoodIn wsL_ships wsX5_delivered := goodIn_r _ [54, 55, 60, 61, 62, 63, 64, 65, 66] (by decide +kernel) (by decide +kernel)
set_option maxRecDepth 20000 in
theorem gL_ships_X5_delivered : GoodIn wsL_ships (wsV RL 10 RX5 yX5_delivered wsX5_delivered) := goodIn_app (goodIn_of _ (by decide +kernel)) ggL_ships_X5_delivered
theorem dL_ships_0 : decode cL_ships 0 = .ok (.iconst 0, 1) := by decide +kernel
theorem dL_ships_1 : decode cL_ships 1 = .ok (.istore_n 3, 1) := by decide +kernel
theorem dL_ships_2 : decode cL_ships 2 = .ok (.iconst 0, 1) := by decide +kernel
theorem dL_ships_3 : decode cL_ships 3 = .ok (.istore 4, 2) := by decide +kernel
theorem dL_ships_5 : decode cL_ships 5 = .ok (.iconst 0, 1) := by decide +kernel
theorem dL_ships_6 : decode cL_ships 6 = .ok (.istore 5, 2) := by decide +kernel
theorem dL_ships_8 : decode cL_ships 8 = .ok (.iconst 0, 1) := by decide +kernel
theorem dL_ships_9 : decode cL_ships 9 = .ok (.istore 6, 2) := by decide +kernel
theorem dL_ships_11 : decode cL_ships 11 = .ok (.iload 6, 2) := by decide +kernel
theorem dL_ships_13 : decode cL_ships 13 = .ok (.iload_n 1, 1) := by decide +kernel
theorem dL_ships_14 : decode cL_ships 14 = .ok (.if_icmp .ge 102, 3) := by decide +kernel
theorem dL_ships_17 : decode cL_ships 17 = .ok (.aload_n 0, 1) := by decide +kernel
theorem dL_ships_18 : decode cL_ships 18 = .ok (.iload 6, 2) := by decide +kernel
theorem dL_ships_20 : decode cL_ships 20 = .ok (.invokevirtual 35, 3) := by decide +kernel
theorem dL_ships_23 : decode cL_ships 23 = .ok (.istore 7, 2) := by decide +kernel
theorem dL_ships_25 : decode cL_ships 25 = .ok (.iload 5, 2) := by decide +kernel
theorem dL_ships_27 : decode cL_ships 27 = .ok (.aload_n 0, 1) := by decide +kernel
theorem dL_ships_28 : decode cL_ships 28 = .ok (.iload 6, 2) := by decide +kernel
theorem dL_ships_30 : decode cL_ships 30 = .ok (.invokevirtual 38, 3) := by decide +kernel
theorem dL_ships_33 : decode cL_ships 33 = .ok (.iadd, 1) := by decide +kernel
theorem dL_ships_34 : decode cL_ships 34 = .ok (.istore 5, 2) := by decide +kernel
theorem dL_ships_36 : decode cL_ships 36 = .ok (.iload_n 3, 1) := by decide +kernel
theorem dL_ships_37 : decode cL_ships 37 = .ok (.iload 7, 2) := by decide +kernel
theorem dL_ships_39 : decode cL_ships 39 = .ok (.iconst 1, 1) := by decide +kernel
theorem dL_ships_40 : decode cL_ships 40 = .ok (.if_icmp .ne 7, 3) := by decide +kernel
theorem dL_ships_43 : decode cL_ships 43 = .ok (.iconst 1, 1) := by decide +kernel
theorem dL_ships_44 : decode cL_ships 44 = .ok (.goto 4, 3) := by decide +kernel
theorem dL_ships_47 : decode cL_ships 47 = .ok (.iconst 0, 1) := by decide +kernel
theorem dL_ships_48 : decode cL_ships 48 = .ok (.iadd, 1) := by decide +kernel
theorem dL_ships_49 : decode cL_ships 49 = .ok (.istore_n 3, 1) := by decide +kernel
theorem dL_ships_50 : decode cL_ships 50 = .ok (.iload 7, 2) := by decide +kernel
theorem dL_ships_52 : decode cL_ships 52 = .ok (.ifCond .ne 19, 3) := by decide +kernel
theorem dL_ships_55 : decode cL_ships 55 = .ok (.aload_n 0, 1) := by decide +kernel
theorem dL_ships_56 : decode cL_ships 56 = .ok (.iload 4, 2) := by decide +kernel
theorem dL_ships_58 : decode cL_ships 58 = .ok (.invokevirtual 41, 3) := by decide +kernel
theorem dL_ships_61 : decode cL_ships 61 = .ok (.iload 6, 2) := by decide +kernel
theorem dL_ships_63 : decode cL_ships 63 = .ok (.if_icmp .eq 5, 3) := by decide +kernel
theorem dL_ships_66 : decode cL_ships 66 = .ok (.iconst 0, 1) := by decide +kernel
theorem dL_ships_67 : decode cL_ships 67 = .ok (.ireturn, 1) := by decide +kernel
theorem dL_ships_68 : decode cL_ships 68 = .ok (.iinc 4 1, 3) := by decide +kernel
theorem dL_ships_71 : decode cL_ships 71 = .ok (.aload_n 0, 1) := by decide +kernel
theorem dL_ships_72 : decode cL_ships 72 = .ok (.iload 6, 2) := by decide +kernel
theorem dL_ships_74 : decode cL_ships 74 = .ok (.invokevirtual 38, 3) := by decide +kernel
theorem dL_ships_77 : decode cL_ships 77 = .ok (.ifCond .lt 31, 3) := by decide +kernel
theorem dL_ships_80 : decode cL_ships 80 = .ok (.iload 7, 2) := by decide +kernel
theorem dL_ships_82 : decode cL_ships 82 = .ok (.iconst 2, 1) := by decide +kernel
theorem dL_ships_83 : decode cL_ships 83 = .ok (.if_icmp .ne 7, 3) := by decide +kernel
theorem dL_ships_86 : decode cL_ships 86 = .ok (.iconst 1, 1) := by decide +kernel
theorem dL_ships_87 : decode cL_ships 87 = .ok (.goto 4, 3) := by decide +kernel
theorem dL_ships_90 : decode cL_ships 90 = .ok (.iconst 0, 1) := by decide +kernel
theorem dL_ships_91 : decode cL_ships 91 = .ok (.aload_n 0, 1) := by decide +kernel
theorem dL_ships_92 : decode cL_ships 92 = .ok (.iload 6, 2) := by decide +kernel
theorem dL_ships_94 : decode cL_ships 94 = .ok (.invokevirtual 38, 3) := by decide +kernel
theorem dL_ships_97 : decode cL_ships 97 = .ok (.ifCond .ne 7, 3) := by decide +kernel
theorem dL_ships_100 : decode cL_ships 100 = .ok (.iconst 1, 1) := by decide +kernel
theorem dL_ships_101 : decode cL_ships 101 = .ok (.goto 4, 3) := by decide +kernel
theorem dL_ships_104 : decode cL_ships 104 = .ok (.iconst 0, 1) := by decide +kernel
theorem dL_ships_105 : decode cL_ships 105 = .ok (.if_icmp .eq 5, 3) := by decide +kernel
theorem dL_ships_108 : decode cL_ships 108 = .ok (.iconst 0, 1) := by decide +kernel
theorem dL_ships_109 : decode cL_ships 109 = .ok (.ireturn, 1) := by decide +kernel
theorem dL_ships_110 : decode cL_ships 110 = .ok (.iinc 6 1, 3) := by decide +kernel
theorem dL_ships_113 : decode cL_ships 113 = .ok (.goto (-102), 3) := by decide +kernel
theorem dL_ships_116 : decode cL_ships 116 = .ok (.iload_n 3, 1) := by decide +kernel
theorem dL_ships_117 : decode cL_ships 117 = .ok (.iconst 2, 1) := by decide +kernel
theorem dL_ships_118 : decode cL_ships 118 = .ok (.if_icmp .gt 35, 3) := by decide +kernel
theorem dL_ships_121 : decode cL_ships 121 = .ok (.iload 4, 2) := by decide +kernel
theorem dL_ships_123 : decode cL_ships 123 = .ok (.bipush 8, 2) := by decide +kernel
theorem dL_ships_125 : decode cL_ships 125 = .ok (.if_icmp .gt 28, 3) := by decide +kernel
theorem dL_ships_128 : decode cL_ships 128 = .ok (.aload_n 0, 1) := by decide +kernel
theorem dL_ships_129 : decode cL_ships 129 = .ok (.iload 4, 2) := by decide +kernel
theorem dL_ships_131 : decode cL_ships 131 = .ok (.invokevirtual 41, 3) := by decide +kernel
theorem dL_ships_134 : decode cL_ships 134 = .ok (.iconst (-1), 1) := by decide +kernel
theorem dL_ships_135 : decode cL_ships 135 = .ok (.if_icmp .ne 18, 3) := by decide +kernel
theorem dL_ships_138 : decode cL_ships 138 = .ok (.aload_n 0, 1) := by decide +kernel
theorem dL_ships_139 : decode cL_ships 139 = .ok (.invokevirtual 10, 3) := by decide +kernel
theorem dL_ships_142 : decode cL_ships 142 = .ok (.iload_n 2, 1) := by decide +kernel
theorem dL_ships_143 : decode cL_ships 143 = .ok (.iload 5, 2) := by decide +kernel
theorem dL_ships_145 : decode cL_ships 145 = .ok (.isub, 1) := by decide +kernel
theorem dL_ships_146 : decode cL_ships 146 = .ok (.if_icmp .ne 7, 3) := by decide +kernel
theorem dL_ships_149 : decode cL_ships 149 = .ok (.iconst 1, 1) := by decide +kernel
theorem dL_ships_150 : decode cL_ships 150 = .ok (.goto 4, 3) := by decide +kernel
theorem dL_ships_153 : decode cL_ships 153 = .ok (.iconst 0, 1) := by decide +kernel
theorem dL_ships_154 : decode cL_ships 154 = .ok (.ireturn, 1) := by decide +kernel
set_option maxRecDepth 20000 in
theorem ggL_isOrdered_X5_gangOn : GoodIn wsL_isOrdered wsX5_gangOn := goodIn_ca (goodIn_r _ [5, 6, 7, 8, 9, 10, 11, 4, 12, 13, 14, 15, 16, 17, 18, 19, 20, 21, 22, 23, 24, 25, 26, 27, 28, 29, 30, 31, 32, 33, 34, 35, 36, 37, 38, 39, 40, 41, 42, 43, 44, 45, 46, 47, 48, 49, 50, 51, 52, 53, 54, 55, 56, 57, 58, 59, 60, 61, 62, 63] (by decide +kernel) (by decide +kernel)) (goodIn_sub (fun _ h => List.mem_cons_of_mem _ (List.mem_append_right _ h)) (by decide +kernel))
set_option maxRecDepth 20000 in
theorem gL_isOrdered_X5_gangOn : GoodIn wsL_isOrdered (wsV RL 26 RX5 yX5_gangOn wsX5_gangOn) := goodIn_app (goodIn_of _ (by decide +kernel)) ggL_isOrdered_X5_gangOn
theorem dL_isOrdered_0 : decode cL_isOrdered 0 = .ok (.iconst 0, 1) := by decide +kernel
theorem dL_isOrdered_1 : decode cL_isOrdered 1 = .ok (.istore_n 3, 1) := by decide +kernel
theorem dL_isOrdered_2 : decode cL_isOrdered 2 = .ok (.iload_n 3, 1) := by decide +kernel
theorem dL_isOrdered_3 : decode cL_isOrdered 3 = .ok (.iload_n 1, 1) := by decide +kernel
theorem dL_isOrdered_4 : decode cL_isOrdered 4 = .ok (.if_icmp .ge 20, 3) := by decide +kernel
theorem dL_isOrdered_7 : decode cL_isOrdered 7 = .ok (.aload_n 0, 1) := by decide +kernel
theorem dL_isOrdered_8 : decode cL_isOrdered 8 = .ok (.iload_n 3, 1) := by decide +kernel
theorem dL_isOrdered_9 : decode cL_isOrdered 9 = .ok (.invokevirtual 26, 3) := by decide +kernel
theorem dL_isOrdered_12 : decode cL_isOrdered 12 = .ok (.iload_n 2, 1) := by decide +kernel
theorem dL_isOrdered_13 : decode cL_isOrdered 13 = .ok (.if_icmp .ne 5, 3) := by decide +kernel
theorem dL_isOrdered_16 : decode cL_isOrdered 16 = .ok (.iconst 1, 1) := by decide +kernel
theorem dL_isOrdered_17 : decode cL_isOrdered 17 = .ok (.ireturn, 1) := by decide +kernel
theorem dL_isOrdered_18 : decode cL_isOrdered 18 = .ok (.iinc 3 1, 3) := by decide +kernel
theorem dL_isOrdered_21 : decode cL_isOrdered 21 = .ok (.goto (-19), 3) := by decide +kernel
theorem dL_isOrdered_24 : decode cL_isOrdered 24 = .ok (.iconst 0, 1) := by decide +kernel
theorem dL_isOrdered_25 : decode cL_isOrdered 25 = .ok (.ireturn, 1) := by decide +kernel
set_option maxRecDepth 20000 in
theorem ggL_commands_L_low : GoodIn wsL_commands wsL_low := goodIn_r _ [4, 5] (by decide +kernel) (by decide +kernel)
set_option maxRecDepth 20000 in
theorem gL_commands_L_low : GoodIn wsL_commands (va_wsS RL 44 yL_low wsL_low) := goodIn_app (goodIn_of _ (by decide +kernel)) ggL_commands_L_low
set_option maxRecDepth 20000 in
theorem ggL_commands_X5_restOf : GoodIn wsL_commands wsX5_restOf := goodIn_ca (goodIn_r _ [10, 11, 12, 13, 14, 9, 15, 16, 17, 18, 19, 20, 21, 22, 23, 24, 25, 26, 27, 28, 29, 30, 31, 32, 33, 34, 35, 36, 37, 38, 39, 40, 41, 42, 138, 139, 140, 141, 142, 143, 144, 145, 146, 147, 148, 149, 150, 151, 152] (by decide +kernel) (by decide +kernel)) (goodIn_sub (fun _ h => List.mem_cons_of_mem _ (List.mem_append_left _ (List.mem_append_right _ h))) (by decide +kernel))
set_option maxRecDepth 20000 in
theorem gL_commands_X5_restOf : GoodIn wsL_commands (wsV RL 32 RX5 yX5_restOf wsX5_restOf) := goodIn_app (goodIn_of _ (by decide +kernel)) ggL_commands_X5_restOf
set_option maxRecDepth 20000 in
theorem ggL_commands_L_isOrdered : GoodIn wsL_commands wsL_isOrdered := goodIn_ca (goodIn_r _ [45, 46, 47, 48, 9, 49, 50, 51, 52, 53, 54, 55, 56, 16, 17, 57, 58, 20, 21, 22, 23, 24, 25, 26, 27, 28, 29, 30, 31, 32, 33, 34, 35, 36, 37, 38, 39, 40, 41, 42, 153, 154, 155, 156, 157, 158, 159, 160, 161, 138, 139, 140, 141, 142, 143, 144, 145, 146, 147, 148, 149, 150, 151, 152] (by decide +kernel) (by decide +kernel)) (goodIn_sub (fun _ h => List.mem_cons_of_mem _ (List.mem_append_left _ (List.mem_append_right _ h))) (by decide +kernel))
set_option maxRecDepth 20000 in
theorem gL_commands_L_isOrdered : GoodIn wsL_commands (va_wsS RL 50 yL_isOrdered wsL_isOrdered) := goodIn_app (goodIn_of _ (by decide +kernel)) ggL_commands_L_isOrdered
set_option maxRecDepth 20000 in
theorem ggL_commands_X5_gangOn : GoodIn wsL_commands wsX5_gangOn := goodIn_ca (goodIn_r _ [49, 50, 51, 52, 53, 54, 55, 9, 56, 16, 17, 57, 58, 20, 21, 22, 23, 24, 25, 26, 27, 28, 29, 30, 31, 32, 33, 34, 35, 36, 37, 38, 39, 40, 41, 42, 153, 154, 155, 156, 157, 158, 159, 160, 161, 138, 139, 140, 141, 142, 143, 144, 145, 146, 147, 148, 149, 150, 151, 152] (by decide +kernel) (by decide +kernel)) (goodIn_sub (fun _ h => List.mem_cons_of_mem _ (List.mem_append_left _ (List.mem_append_right _ h))) (by decide +kernel))
set_option maxRecDepth 20000 in
theorem gL_commands_X5_gangOn : GoodIn wsL_commands (wsV RL 26 RX5 yX5_gangOn wsX5_gangOn) := goodIn_app (goodIn_of _ (by decide +kernel)) ggL_commands_X5_gangOn
set_option maxRecDepth 20000 in
theorem ggL_commands_X5_shift : GoodIn wsL_commands wsX5_shift := goodIn_ca (goodIn_ca (goodIn_r _ [62, 63, 53, 54, 55, 9, 56, 16, 17, 57, 58, 20, 21, 22, 23, 24, 25, 26, 27, 28, 29, 30, 31, 32, 33, 34, 35, 36, 37, 38, 39, 40, 41, 42, 64, 65, 66, 67, 68, 69, 70, 71, 72, 73, 74, 50, 153, 154, 155, 156, 157, 158, 159, 143, 144, 145, 146, 147, 148, 149, 150, 151, 152] (by decide +kernel) (by decide +kernel)) (goodIn_sub (fun _ h => List.mem_cons_of_mem _ (List.mem_append_left _ (List.mem_append_right _ h))) (by decide +kernel))) (goodIn_sub (fun _ h => List.mem_cons_of_mem _ (List.mem_append_right _ h)) (by decide +kernel))
set_option maxRecDepth 20000 in
theorem gL_commands_X5_shift : GoodIn wsL_commands (wsV RL 54 RX5 yX5_shift wsX5_shift) := goodIn_app (goodIn_of _ (by decide +kernel)) ggL_commands_X5_shift
set_option maxRecDepth 20000 in
theorem ggL_commands_X5_dustIn : GoodIn wsL_commands wsX5_dustIn := goodIn_ca (goodIn_r _ [78, 79, 53, 54, 55, 9, 56, 16, 17, 57, 58, 20, 21, 22, 23, 24, 25, 26, 27, 28, 29, 30, 31, 32, 33, 34, 35, 36, 37, 38, 39, 40, 41, 42, 153, 154, 155, 156, 157, 158, 159, 143, 144, 145, 146, 147, 148, 149, 150, 151, 152] (by decide +kernel) (by decide +kernel)) (goodIn_sub (fun _ h => List.mem_cons_of_mem _ (List.mem_append_left _ (List.mem_append_right _ h))) (by decide +kernel))
set_option maxRecDepth 20000 in
theorem gL_commands_X5_dustIn : GoodIn wsL_commands (wsV RL 23 RX5 yX5_dustIn wsX5_dustIn) := goodIn_app (goodIn_of _ (by decide +kernel)) ggL_commands_X5_dustIn
set_option maxRecDepth 20000 in
theorem ggL_commands_X5_sweep : GoodIn wsL_commands wsX5_sweep := goodIn_ca (goodIn_ca (goodIn_r _ [83, 79, 63, 84, 53, 54, 55, 9, 56, 16, 17, 57, 58, 20, 21, 22, 23, 24, 25, 26, 27, 28, 29, 30, 31, 32, 33, 34, 35, 36, 37, 38, 39, 40, 41, 42, 12, 13, 14, 15, 18, 19, 70, 71, 72, 73, 74, 50, 85, 86, 87, 88, 89, 90, 91, 92, 93, 94, 95, 96, 97, 98, 99, 153, 154, 155, 156, 157, 158, 159, 162, 143, 144, 145, 146, 147, 148, 149, 150, 151, 152, 138, 139, 140, 141, 142] (by decide +kernel) (by decide +kernel)) (goodIn_sub (fun _ h => List.mem_cons_of_mem _ (List.mem_append_left _ (List.mem_append_right _ h))) (by decide +kernel))) (goodIn_sub (fun _ h => List.mem_cons_of_mem _ (List.mem_append_right _ h)) (by decide +kernel))
set_option maxRecDepth 20000 in
theorem gL_commands_X5_sweep : GoodIn wsL_commands (wsV RL 58 RX5 yX5_sweep wsX5_sweep) := goodIn_app (goodIn_of _ (by decide +kernel)) ggL_commands_X5_sweep
set_option maxRecDepth 20000 in
theorem ggL_commands_X5_fateOf : GoodIn wsL_commands wsX5_fateOf := goodIn_ca (goodIn_r _ [103, 104, 105, 106, 107, 9, 108, 16, 17, 109, 110, 20, 21, 22, 23, 24, 25, 26, 27, 28, 29, 30, 31, 32, 33, 34, 35, 36, 37, 38, 39, 40, 41, 42, 163, 164, 165, 166, 143, 144, 145, 146, 147, 148, 149, 150, 151, 152] (by decide +kernel) (by decide +kernel)) (goodIn_sub (fun _ h => List.mem_cons_of_mem _ (List.mem_append_left _ (List.mem_append_right _ h))) (by decide +kernel))
set_option maxRecDepth 20000 in
theorem gL_commands_X5_fateOf : GoodIn wsL_commands (wsV RL 35 RX5 yX5_fateOf wsX5_fateOf) := goodIn_app (goodIn_of _ (by decide +kernel)) ggL_commands_X5_fateOf
set_option maxRecDepth 20000 in
theorem ggL_commands_X5_order : GoodIn wsL_commands wsX5_order := goodIn_ca (goodIn_ca (goodIn_r _ [114, 73, 74, 115, 116, 117, 50, 118, 53, 54, 55, 9, 56, 16, 17, 57, 58, 20, 21, 22, 23, 24, 25, 26, 27, 28, 29, 30, 31, 32, 33, 34, 35, 36, 37, 38, 39, 40, 41, 42, 12, 13, 14, 15, 18, 19, 105, 106, 107, 108, 109, 110, 70, 71, 72, 85, 86, 87, 88, 89, 90, 91, 92, 93, 94, 119, 120, 121, 122, 123, 124, 125, 126, 127, 128, 129, 130, 131, 132, 160, 161, 153, 154, 155, 156, 157, 158, 159, 138, 139, 140, 141, 142, 143, 144, 145, 146, 147, 148, 149, 150, 151, 152, 163, 164, 165, 166] (by decide +kernel) (by decide +kernel)) (goodIn_sub (fun _ h => List.mem_cons_of_mem _ (List.mem_append_right _ h)) (by decide +kernel))) (goodIn_sub (fun _ h => List.mem_cons_of_mem _ (List.mem_append_left _ (List.mem_append_right _ h))) (by decide +kernel))
set_option maxRecDepth 20000 in
theorem gL_commands_X5_order : GoodIn wsL_commands (wsV RL 61 RX5 yX5_order wsX5_order) := goodIn_app (goodIn_of _ (by decide +kernel)) ggL_commands_X5_order
set_option maxRecDepth 20000 in
theorem ggL_commands_X5_placeOf : GoodIn wsL_commands wsX5_placeOf := goodIn_ca (goodIn_r _ [136, 137, 53, 54, 55, 9, 56, 16, 17, 57, 58, 20, 21, 22, 23, 24, 25, 26, 27, 28, 29, 30, 31, 32, 33, 34, 35, 36, 37, 38, 39, 40, 41, 42, 153, 154, 155, 156, 157, 158, 159, 143, 144, 145, 146, 147, 148, 149, 150, 151, 152] (by decide +kernel) (by decide +kernel)) (goodIn_sub (fun _ h => List.mem_cons_of_mem _ (List.mem_append_left _ (List.mem_append_right _ h))) (by decide +kernel))
set_option maxRecDepth 20000 in
theorem gL_commands_X5_placeOf : GoodIn wsL_commands (wsV RL 29 RX5 yX5_placeOf wsX5_placeOf) := goodIn_app (goodIn_of _ (by decide +kernel)) ggL_commands_X5_placeOf
theorem dL_commands_0 : decode cL_commands 0 = .ok (.iload 5, 2) := by decide +kernel
theorem dL_commands_2 : decode cL_commands 2 = .ok (.iload_n 1, 1) := by decide +kernel
theorem dL_commands_3 : decode cL_commands 3 = .ok (.invokestatic 44, 3) := by decide +kernel
theorem dL_commands_6 : decode cL_commands 6 = .ok (.istore 6, 2) := by decide +kernel
theorem dL_commands_8 : decode cL_commands 8 = .ok (.aload_n 0, 1) := by decide +kernel
theorem dL_commands_9 : decode cL_commands 9 = .ok (.iload_n 2, 1) := by decide +kernel
theorem dL_commands_10 : decode cL_commands 10 = .ok (.invokevirtual 32, 3) := by decide +kernel
theorem dL_commands_13 : decode cL_commands 13 = .ok (.ifCond .ne 16, 3) := by decide +kernel
theorem dL_commands_16 : decode cL_commands 16 = .ok (.aload_n 0, 1) := by decide +kernel
theorem dL_commands_17 : decode cL_commands 17 = .ok (.iload_n 1, 1) := by decide +kernel
theorem dL_commands_18 : decode cL_commands 18 = .ok (.iload_n 2, 1) := by decide +kernel
theorem dL_commands_19 : decode cL_commands 19 = .ok (.invokestatic 50, 3) := by decide +kernel
theorem dL_commands_22 : decode cL_commands 22 = .ok (.ifCond .ne 7, 3) := by decide +kernel
theorem dL_commands_25 : decode cL_commands 25 = .ok (.iconst 1, 1) := by decide +kernel
theorem dL_commands_26 : decode cL_commands 26 = .ok (.goto 4, 3) := by decide +kernel
theorem dL_commands_29 : decode cL_commands 29 = .ok (.iconst 0, 1) := by decide +kernel
theorem dL_commands_30 : decode cL_commands 30 = .ok (.istore 7, 2) := by decide +kernel
theorem dL_commands_32 : decode cL_commands 32 = .ok (.iload 5, 2) := by decide +kernel
theorem dL_commands_34 : decode cL_commands 34 = .ok (.iconst 3, 1) := by decide +kernel
theorem dL_commands_35 : decode cL_commands 35 = .ok (.ishr, 1) := by decide +kernel
theorem dL_commands_36 : decode cL_commands 36 = .ok (.bipush 6, 2) := by decide +kernel
theorem dL_commands_38 : decode cL_commands 38 = .ok (.invokestatic 44, 3) := by decide +kernel
theorem dL_commands_41 : decode cL_commands 41 = .ok (.istore 8, 2) := by decide +kernel
theorem dL_commands_43 : decode cL_commands 43 = .ok (.aload_n 0, 1) := by decide +kernel
theorem dL_commands_44 : decode cL_commands 44 = .ok (.iload 6, 2) := by decide +kernel
theorem dL_commands_46 : decode cL_commands 46 = .ok (.invokevirtual 26, 3) := by decide +kernel
theorem dL_commands_49 : decode cL_commands 49 = .ok (.ifCond .lt 5, 3) := by decide +kernel
theorem dL_commands_52 : decode cL_commands 52 = .ok (.iconst 1, 1) := by decide +kernel
theorem dL_commands_53 : decode cL_commands 53 = .ok (.ireturn, 1) := by decide +kernel
theorem dL_commands_54 : decode cL_commands 54 = .ok (.iload 8, 2) := by decide +kernel
theorem dL_commands_56 : decode cL_commands 56 = .ok (.ifCond .ne 35, 3) := by decide +kernel
theorem dL_commands_59 : decode cL_commands 59 = .ok (.aload_n 0, 1) := by decide +kernel
theorem dL_commands_60 : decode cL_commands 60 = .ok (.iload 6, 2) := by decide +kernel
theorem dL_commands_62 : decode cL_commands 62 = .ok (.iload 5, 2) := by decide +kernel
theorem dL_commands_64 : decode cL_commands 64 = .ok (.bipush 7, 2) := by decide +kernel
theorem dL_commands_66 : decode cL_commands 66 = .ok (.ishr, 1) := by decide +kernel
theorem dL_commands_67 : decode cL_commands 67 = .ok (.iload 4, 2) := by decide +kernel
theorem dL_commands_69 : decode cL_commands 69 = .ok (.invokestatic 44, 3) := by decide +kernel
theorem dL_commands_72 : decode cL_commands 72 = .ok (.invokevirtual 54, 3) := by decide +kernel
theorem dL_commands_75 : decode cL_commands 75 = .ok (.aload_n 0, 1) := by decide +kernel
theorem dL_commands_76 : decode cL_commands 76 = .ok (.iload 6, 2) := by decide +kernel
theorem dL_commands_78 : decode cL_commands 78 = .ok (.invokevirtual 26, 3) := by decide +kernel
theorem dL_commands_81 : decode cL_commands 81 = .ok (.iconst (-1), 1) := by decide +kernel
theorem dL_commands_82 : decode cL_commands 82 = .ok (.if_icmp .ne 7, 3) := by decide +kernel
theorem dL_commands_85 : decode cL_commands 85 = .ok (.iconst 1, 1) := by decide +kernel
theorem dL_commands_86 : decode cL_commands 86 = .ok (.goto 4, 3) := by decide +kernel
theorem dL_commands_89 : decode cL_commands 89 = .ok (.iconst 0, 1) := by decide +kernel
theorem dL_commands_90 : decode cL_commands 90 = .ok (.ireturn, 1) := by decide +kernel
theorem dL_commands_91 : decode cL_commands 91 = .ok (.iload 8, 2) := by decide +kernel
theorem dL_commands_93 : decode cL_commands 93 = .ok (.iconst 1, 1) := by decide +kernel
theorem dL_commands_94 : decode cL_commands 94 = .ok (.if_icmp .ne 53, 3) := by decide +kernel
theorem dL_commands_97 : decode cL_commands 97 = .ok (.iload 7, 2) := by decide +kernel
theorem dL_commands_99 : decode cL_commands 99 = .ok (.ifCond .eq 48, 3) := by decide +kernel
theorem dL_commands_102 : decode cL_commands 102 = .ok (.aload_n 0, 1) := by decide +kernel
theorem dL_commands_103 : decode cL_commands 103 = .ok (.iload 6, 2) := by decide +kernel
theorem dL_commands_105 : decode cL_commands 105 = .ok (.invokevirtual 23, 3) := by decide +kernel
theorem dL_commands_108 : decode cL_commands 108 = .ok (.istore 9, 2) := by decide +kernel
theorem dL_commands_110 : decode cL_commands 110 = .ok (.aload_n 0, 1) := by decide +kernel
theorem dL_commands_111 : decode cL_commands 111 = .ok (.iload 6, 2) := by decide +kernel
theorem dL_commands_113 : decode cL_commands 113 = .ok (.iload_n 2, 1) := by decide +kernel
theorem dL_commands_114 : decode cL_commands 114 = .ok (.invokevirtual 58, 3) := by decide +kernel
theorem dL_commands_117 : decode cL_commands 117 = .ok (.iload 9, 2) := by decide +kernel
theorem dL_commands_119 : decode cL_commands 119 = .ok (.if_icmp .ne 26, 3) := by decide +kernel
theorem dL_commands_122 : decode cL_commands 122 = .ok (.aload_n 0, 1) := by decide +kernel
theorem dL_commands_123 : decode cL_commands 123 = .ok (.iload 6, 2) := by decide +kernel
theorem dL_commands_125 : decode cL_commands 125 = .ok (.invokevirtual 23, 3) := by decide +kernel
theorem dL_commands_128 : decode cL_commands 128 = .ok (.ifCond .ne 17, 3) := by decide +kernel
theorem dL_commands_131 : decode cL_commands 131 = .ok (.aload_n 0, 1) := by decide +kernel
theorem dL_commands_132 : decode cL_commands 132 = .ok (.iload_n 2, 1) := by decide +kernel
theorem dL_commands_133 : decode cL_commands 133 = .ok (.invokevirtual 32, 3) := by decide +kernel
theorem dL_commands_136 : decode cL_commands 136 = .ok (.bipush 8, 2) := by decide +kernel
theorem dL_commands_138 : decode cL_commands 138 = .ok (.if_icmp .ne 7, 3) := by decide +kernel
theorem dL_commands_141 : decode cL_commands 141 = .ok (.iconst 1, 1) := by decide +kernel
theorem dL_commands_142 : decode cL_commands 142 = .ok (.goto 4, 3) := by decide +kernel
theorem dL_commands_145 : decode cL_commands 145 = .ok (.iconst 0, 1) := by decide +kernel
theorem dL_commands_146 : decode cL_commands 146 = .ok (.ireturn, 1) := by decide +kernel
theorem dL_commands_147 : decode cL_commands 147 = .ok (.iload_n 3, 1) := by decide +kernel
theorem dL_commands_148 : decode cL_commands 148 = .ok (.iconst 1, 1) := by decide +kernel
theorem dL_commands_149 : decode cL_commands 149 = .ok (.isub, 1) := by decide +kernel
theorem dL_commands_150 : decode cL_commands 150 = .ok (.iload 5, 2) := by decide +kernel
theorem dL_commands_152 : decode cL_commands 152 = .ok (.bipush 7, 2) := by decide +kernel
theorem dL_commands_154 : decode cL_commands 154 = .ok (.ishr, 1) := by decide +kernel
theorem dL_commands_155 : decode cL_commands 155 = .ok (.iload_n 3, 1) := by decide +kernel
theorem dL_commands_156 : decode cL_commands 156 = .ok (.iconst 3, 1) := by decide +kernel
theorem dL_commands_157 : decode cL_commands 157 = .ok (.if_icmp .ge 7, 3) := by decide +kernel
theorem dL_commands_160 : decode cL_commands 160 = .ok (.iload_n 3, 1) := by decide +kernel
theorem dL_commands_161 : decode cL_commands 161 = .ok (.goto 4, 3) := by decide +kernel
theorem dL_commands_164 : decode cL_commands 164 = .ok (.iconst 3, 1) := by decide +kernel
theorem dL_commands_165 : decode cL_commands 165 = .ok (.invokestatic 44, 3) := by decide +kernel
theorem dL_commands_168 : decode cL_commands 168 = .ok (.isub, 1) := by decide +kernel
theorem dL_commands_169 : decode cL_commands 169 = .ok (.istore 9, 2) := by decide +kernel
theorem dL_commands_171 : decode cL_commands 171 = .ok (.iload 7, 2) := by decide +kernel
theorem dL_commands_173 : decode cL_commands 173 = .ok (.ifCond .eq 47, 3) := by decide +kernel
theorem dL_commands_176 : decode cL_commands 176 = .ok (.aload_n 0, 1) := by decide +kernel
theorem dL_commands_177 : decode cL_commands 177 = .ok (.iload 9, 2) := by decide +kernel
theorem dL_commands_179 : decode cL_commands 179 = .ok (.invokevirtual 35, 3) := by decide +kernel
theorem dL_commands_182 : decode cL_commands 182 = .ok (.iconst 2, 1) := by decide +kernel
theorem dL_commands_183 : decode cL_commands 183 = .ok (.if_icmp .ge 37, 3) := by decide +kernel
theorem dL_commands_186 : decode cL_commands 186 = .ok (.aload_n 0, 1) := by decide +kernel
theorem dL_commands_187 : decode cL_commands 187 = .ok (.iload 6, 2) := by decide +kernel
theorem dL_commands_189 : decode cL_commands 189 = .ok (.iload_n 2, 1) := by decide +kernel
theorem dL_commands_190 : decode cL_commands 190 = .ok (.iload 9, 2) := by decide +kernel
theorem dL_commands_192 : decode cL_commands 192 = .ok (.invokevirtual 61, 3) := by decide +kernel
theorem dL_commands_195 : decode cL_commands 195 = .ok (.aload_n 0, 1) := by decide +kernel
theorem dL_commands_196 : decode cL_commands 196 = .ok (.iload 6, 2) := by decide +kernel
theorem dL_commands_198 : decode cL_commands 198 = .ok (.invokevirtual 26, 3) := by decide +kernel
theorem dL_commands_201 : decode cL_commands 201 = .ok (.iload_n 2, 1) := by decide +kernel
theorem dL_commands_202 : decode cL_commands 202 = .ok (.if_icmp .ne 16, 3) := by decide +kernel
theorem dL_commands_205 : decode cL_commands 205 = .ok (.aload_n 0, 1) := by decide +kernel
theorem dL_commands_206 : decode cL_commands 206 = .ok (.iload 6, 2) := by decide +kernel
theorem dL_commands_208 : decode cL_commands 208 = .ok (.invokevirtual 29, 3) := by decide +kernel
theorem dL_commands_211 : decode cL_commands 211 = .ok (.ifCond .ne 7, 3) := by decide +kernel
theorem dL_commands_214 : decode cL_commands 214 = .ok (.iconst 1, 1) := by decide +kernel
theorem dL_commands_215 : decode cL_commands 215 = .ok (.goto 4, 3) := by decide +kernel
theorem dL_commands_218 : decode cL_commands 218 = .ok (.iconst 0, 1) := by decide +kernel
theorem dL_commands_219 : decode cL_commands 219 = .ok (.ireturn, 1) := by decide +kernel
theorem dL_commands_220 : decode cL_commands 220 = .ok (.iconst 1, 1) := by decide +kernel
theorem dL_commands_221 : decode cL_commands 221 = .ok (.ireturn, 1) := by decide +kernel
set_option maxRecDepth 20000 in
theorem ggL_law_X5_init : GoodIn wsL_law wsX5_init := goodIn_r _ [6, 7, 8, 9, 10, 11, 12, 13, 14, 15, 16, 17, 18, 19, 20, 21, 22, 23, 24, 25, 26, 27, 28, 29, 30, 31, 32, 408, 409, 410, 401, 402, 403, 404, 405, 406, 407] (by decide +kernel) (by decide +kernel)
set_option maxRecDepth 20000 in
theorem gL_law_X5_init : GoodIn wsL_law (wsX5_init) := ggL_law_X5_init
set_option maxRecDepth 20000 in
theorem ggL_law_L_cell : GoodIn wsL_law wsL_cell := goodIn_r _ [36, 37, 38] (by decide +kernel) (by decide +kernel)
set_option maxRecDepth 20000 in
theorem gL_law_L_cell : GoodIn wsL_law (va_wsS RL 66 yL_cell wsL_cell) := goodIn_app (goodIn_of _ (by decide +kernel)) ggL_law_L_cell
set_option maxRecDepth 20000 in
theorem ggL_law_L_low : GoodIn wsL_law wsL_low := goodIn_r _ [41, 42] (by decide +kernel) (by decide +kernel)
set_option maxRecDepth 20000 in
theorem gL_law_L_low : GoodIn wsL_law (va_wsS RL 44 yL_low wsL_low) := goodIn_app (goodIn_of _ (by decide +kernel)) ggL_law_L_low
set_option maxRecDepth 20000 in
theorem ggL_law_X5_hulk : GoodIn wsL_law wsX5_hulk := goodIn_ca (goodIn_ca (goodIn_r _ [46, 47, 48, 13, 49, 50, 51, 52, 53, 2, 54, 55, 56, 57, 58, 59, 12, 60, 61, 62, 63, 64, 65, 8, 9, 66, 67, 68, 69, 70, 71, 72, 22, 73, 74, 75, 76, 77, 78, 79, 80, 81, 82, 83, 84, 21, 85, 86, 87, 88, 89, 90, 91, 92, 93, 94, 95, 96, 97, 98, 99, 100, 101, 102, 103, 104, 105, 106, 107, 108, 109, 110, 111, 112, 113, 114, 115, 116, 117, 118, 401, 402, 403, 404, 405, 406, 407, 411, 408, 409, 410] (by decide +kernel) (by decide +kernel)) (goodIn_sub (fun _ h => List.mem_append_left _ (List.mem_append_left _ (List.mem_append_right _ h))) (by decide +kernel))) (goodIn_sub (fun _ h => List.mem_append_left _ (List.mem_append_right _ h)) (by decide +kernel))
set_option maxRecDepth 20000 in
theorem gL_law_X5_hulk : GoodIn wsL_law (wsV RL 70 RX5 yX5_hulk wsX5_hulk) := goodIn_app (goodIn_of _ (by decide +kernel)) ggL_law_X5_hulk
set_option maxRecDepth 20000 in
theorem ggL_law_X5_coalIn : GoodIn wsL_law wsX5_coalIn := goodIn_ca (goodIn_r _ [122, 123, 124, 125, 126, 2, 127, 128, 129, 13, 130, 57, 58, 59, 12, 60, 61, 131, 132, 133, 134, 135, 136, 137, 138, 139, 140, 141, 142, 143, 144, 145, 146, 22, 411, 401, 402, 403, 404, 405, 406, 407, 408, 409, 410] (by decide +kernel) (by decide +kernel)) (goodIn_sub (fun _ h => List.mem_append_right _ h) (by decide +kernel))
set_option maxRecDepth 20000 in
theorem gL_law_X5_coalIn : GoodIn wsL_law (wsV RL 16 RX5 yX5_coalIn wsX5_coalIn) := goodIn_app (goodIn_of _ (by decide +kernel)) ggL_law_X5_coalIn
set_option maxRecDepth 20000 in
theorem ggL_law_X5_lighter : GoodIn wsL_law wsX5_lighter := goodIn_ca (goodIn_ca (goodIn_r _ [150, 47, 48, 14, 13, 151, 152, 153, 130, 52, 53, 2, 54, 55, 56, 57, 58, 59, 12, 60, 61, 154, 155, 156, 157, 131, 132, 133, 134, 135, 136, 137, 138, 139, 140, 141, 142, 143, 144, 145, 146, 22, 158, 159, 160, 161, 8, 9, 162, 163, 164, 67, 68, 69, 70, 71, 72, 73, 74, 75, 76, 77, 78, 79, 80, 81, 82, 83, 84, 21, 85, 86, 87, 88, 89, 90, 91, 92, 93, 94, 95, 96, 97, 98, 99, 100, 101, 102, 103, 104, 105, 106, 107, 108, 109, 110, 111, 112, 113, 114, 115, 116, 117, 118, 401, 402, 403, 404, 405, 406, 407, 412, 413, 414, 415, 416, 417, 418, 408, 409, 410] (by decide +kernel) (by decide +kernel)) (goodIn_sub (fun _ h => List.mem_append_left _ (List.mem_append_left _ (List.mem_append_right _ h))) (by decide +kernel))) (goodIn_sub (fun _ h => List.mem_append_left _ (List.mem_append_right _ h)) (by decide +kernel))
set_option maxRecDepth 20000 in
theorem gL_law_X5_lighter : GoodIn wsL_law (wsV RL 73 RX5 yX5_lighter wsX5_lighter) := goodIn_app (goodIn_of _ (by decide +kernel)) ggL_law_X5_lighter
set_option maxRecDepth 20000 in
theorem ggL_law_X5_gangOn : GoodIn wsL_law wsX5_gangOn := goodIn_ca (goodIn_r _ [168, 169, 170, 171, 172, 173, 174, 2, 175, 128, 129, 14, 176, 57, 58, 59, 12, 60, 61, 131, 132, 133, 134, 135, 136, 137, 138, 139, 140, 141, 142, 143, 144, 145, 146, 22, 412, 413, 414, 415, 416, 417, 418, 419, 420, 421, 422, 423, 424, 425, 401, 402, 403, 404, 405, 406, 407, 408, 409, 410] (by decide +kernel) (by decide +kernel)) (goodIn_sub (fun _ h => List.mem_append_right _ h) (by decide +kernel))
set_option maxRecDepth 20000 in
theorem gL_law_X5_gangOn : GoodIn wsL_law (wsV RL 26 RX5 yX5_gangOn wsX5_gangOn) := goodIn_app (goodIn_of _ (by decide +kernel)) ggL_law_X5_gangOn
set_option maxRecDepth 20000 in
theorem ggL_law_X5_gang : GoodIn wsL_law wsX5_gang := goodIn_ca (goodIn_ca (goodIn_r _ [180, 47, 48, 15, 181, 182, 183, 52, 53, 2, 54, 55, 56, 57, 58, 59, 12, 60, 61, 184, 185, 186, 187, 8, 9, 188, 189, 67, 68, 69, 70, 71, 72, 22, 73, 74, 75, 76, 77, 78, 79, 80, 81, 82, 83, 84, 21, 85, 86, 87, 88, 89, 90, 91, 92, 93, 94, 95, 96, 97, 98, 99, 100, 101, 102, 103, 104, 105, 106, 107, 108, 109, 110, 111, 112, 113, 114, 115, 116, 117, 118, 401, 402, 403, 404, 405, 406, 407, 421, 422, 423, 424, 425, 408, 409, 410] (by decide +kernel) (by decide +kernel)) (goodIn_sub (fun _ h => List.mem_append_left _ (List.mem_append_left _ (List.mem_append_right _ h))) (by decide +kernel))) (goodIn_sub (fun _ h => List.mem_append_left _ (List.mem_append_right _ h)) (by decide +kernel))
set_option maxRecDepth 20000 in
theorem gL_law_X5_gang : GoodIn wsL_law (wsV RL 76 RX5 yX5_gang wsX5_gang) := goodIn_app (goodIn_of _ (by decide +kernel)) ggL_law_X5_gang
set_option maxRecDepth 20000 in
theorem ggL_law_X5_restOf : GoodIn wsL_law wsX5_restOf := goodIn_ca (goodIn_r _ [193, 194, 195, 196, 197, 2, 198, 128, 129, 15, 199, 57, 58, 59, 12, 60, 61, 131, 132, 133, 134, 135, 136, 137, 138, 139, 140, 141, 142, 143, 144, 145, 146, 22, 421, 422, 423, 424, 425, 401, 402, 403, 404, 405, 406, 407, 408, 409, 410] (by decide +kernel) (by decide +kernel)) (goodIn_sub (fun _ h => List.mem_append_right _ h) (by decide +kernel))
set_option maxRecDepth 20000 in
theorem gL_law_X5_restOf : GoodIn wsL_law (wsV RL 32 RX5 yX5_restOf wsX5_restOf) := goodIn_app (goodIn_of _ (by decide +kernel)) ggL_law_X5_restOf
set_option maxRecDepth 20000 in
theorem ggL_law_X5_outside : GoodIn wsL_law wsX5_outside := goodIn_ca (goodIn_r _ [203, 55, 56, 17, 204, 205, 206, 57, 58, 59, 12, 60, 61, 131, 132, 133, 134, 135, 136, 137, 138, 139, 140, 141, 142, 143, 144, 145, 146, 22, 401, 402, 403, 404, 405, 406, 407, 426, 427, 428, 429, 408, 409, 410] (by decide +kernel) (by decide +kernel)) (goodIn_sub (fun _ h => List.mem_append_left _ (List.mem_append_right _ h)) (by decide +kernel))
set_option maxRecDepth 20000 in
theorem gL_law_X5_outside : GoodIn wsL_law (wsV RL 41 RX5 yX5_outside wsX5_outside) := goodIn_app (goodIn_of _ (by decide +kernel)) ggL_law_X5_outside
set_option maxRecDepth 20000 in
theorem ggL_law_X5_steamer : GoodIn wsL_law wsX5_steamer := goodIn_ca (goodIn_ca (goodIn_r _ [210, 47, 48, 16, 211, 212, 213, 17, 52, 53, 2, 54, 55, 56, 57, 58, 59, 12, 60, 61, 214, 215, 216, 217, 204, 205, 131, 132, 133, 134, 135, 136, 137, 138, 139, 140, 141, 142, 143, 144, 145, 146, 22, 218, 219, 220, 221, 8, 9, 222, 223, 224, 225, 67, 68, 69, 70, 71, 72, 73, 74, 75, 76, 77, 78, 79, 80, 81, 82, 83, 84, 21, 85, 86, 87, 88, 89, 90, 91, 92, 93, 94, 95, 96, 97, 98, 99, 100, 101, 102, 103, 104, 105, 106, 107, 108, 109, 110, 111, 112, 113, 114, 115, 116, 117, 118, 401, 402, 403, 404, 405, 406, 407, 426, 427, 428, 429, 408, 409, 410] (by decide +kernel) (by decide +kernel)) (goodIn_sub (fun _ h => List.mem_append_left _ (List.mem_append_left _ (List.mem_append_right _ h))) (by decide +kernel))) (goodIn_sub (fun _ h => List.mem_append_left _ (List.mem_append_right _ h)) (by decide +kernel))
set_option maxRecDepth 20000 in
theorem gL_law_X5_steamer : GoodIn wsL_law (wsV RL 79 RX5 yX5_steamer wsX5_steamer) := goodIn_app (goodIn_of _ (by decide +kernel)) ggL_law_X5_steamer
set_option maxRecDepth 20000 in
theorem ggL_law_X5_fateOf : GoodIn wsL_law wsX5_fateOf := goodIn_ca (goodIn_r _ [229, 205, 230, 231, 232, 2, 233, 128, 129, 16, 204, 57, 58, 59, 12, 60, 61, 131, 132, 133, 134, 135, 136, 137, 138, 139, 140, 141, 142, 143, 144, 145, 146, 22, 426, 427, 428, 429, 401, 402, 403, 404, 405, 406, 407, 408, 409, 410] (by decide +kernel) (by decide +kernel)) (goodIn_sub (fun _ h => List.mem_append_right _ h) (by decide +kernel))
set_option maxRecDepth 20000 in
theorem gL_law_X5_fateOf : GoodIn wsL_law (wsV RL 35 RX5 yX5_fateOf wsX5_fateOf) := goodIn_app (goodIn_of _ (by decide +kernel)) ggL_law_X5_fateOf
set_option maxRecDepth 20000 in
theorem ggL_law_L_commands : GoodIn wsL_law wsL_commands := goodIn_ca (goodIn_ca (goodIn_r _ [236, 39, 40, 35, 41, 42, 190, 191, 192, 2, 193, 194, 195, 196, 197, 198, 128, 129, 15, 199, 57, 58, 59, 12, 60, 61, 131, 132, 133, 134, 135, 136, 137, 138, 139, 140, 141, 142, 143, 144, 145, 146, 22, 237, 238, 239, 165, 166, 167, 168, 169, 170, 171, 172, 173, 174, 175, 14, 176, 240, 241, 242, 243, 244, 124, 125, 126, 127, 13, 130, 245, 246, 247, 47, 48, 248, 249, 250, 251, 252, 253, 254, 255, 256, 123, 257, 258, 259, 260, 261, 262, 183, 263, 264, 265, 266, 267, 268, 269, 270, 226, 227, 228, 229, 205, 230, 231, 232, 233, 16, 204, 271, 272, 273, 274, 275, 276, 277, 278, 279, 280, 281, 213, 282, 225, 283, 284, 285, 286, 8, 9, 287, 288, 289, 290, 291, 292, 293, 421, 422, 423, 424, 425, 401, 402, 403, 404, 405, 406, 407, 408, 409, 410, 412, 413, 414, 415, 416, 417, 418, 419, 420, 411, 426, 427, 428, 429] (by decide +kernel) (by decide +kernel)) (goodIn_sub (fun _ h => List.mem_append_right _ h) (by decide +kernel))) (goodIn_sub (fun _ h => List.mem_append_left _ (List.mem_append_left _ (List.mem_append_right _ h))) (by decide +kernel))
set_option maxRecDepth 20000 in
theorem gL_law_L_commands : GoodIn wsL_law (va_wsS RL 82 yL_commands wsL_commands) := goodIn_app (goodIn_of _ (by decide +kernel)) ggL_law_L_commands
set_option maxRecDepth 20000 in
theorem ggL_law_X5_clock : GoodIn wsL_law wsX5_clock := goodIn_r _ [297, 298, 401, 402, 403, 404, 405, 406, 407] (by decide +kernel) (by decide +kernel)
set_option maxRecDepth 20000 in
theorem gL_law_X5_clock : GoodIn wsL_law (wsV RL 86 RX5 yX5_clock wsX5_clock) := goodIn_app (goodIn_of _ (by decide +kernel)) ggL_law_X5_clock
set_option maxRecDepth 20000 in
theorem ggL_law_X5_hours : GoodIn wsL_law wsX5_hours := goodIn_ca (goodIn_r _ [302, 52, 53, 2, 54, 55, 56, 303, 304, 305, 306, 298, 307, 308, 309, 310, 15, 199, 194, 57, 58, 59, 12, 60, 61, 131, 132, 133, 134, 135, 136, 137, 138, 139, 140, 141, 142, 143, 144, 145, 146, 22, 311, 312, 313, 314, 17, 204, 205, 214, 215, 216, 217, 315, 316, 317, 318, 14, 176, 169, 170, 319, 320, 321, 322, 323, 293, 324, 325, 326, 327, 328, 244, 123, 329, 330, 331, 332, 333, 113, 87, 114, 252, 334, 335, 336, 183, 337, 189, 338, 339, 340, 278, 266, 267, 268, 269, 265, 270, 341, 342, 343, 344, 345, 346, 347, 348, 349, 350, 351, 352, 353, 354, 355, 356, 357, 358, 359, 360, 361, 362, 363, 364, 365, 366, 367, 368, 369, 370, 371, 372, 373, 279, 280, 281, 213, 282, 225, 374, 375, 376, 377, 378, 379, 380, 381, 71, 72, 382, 116, 117, 118, 401, 402, 403, 404, 405, 406, 407, 421, 422, 423, 424, 425, 408, 409, 410, 426, 427, 428, 429, 412, 413, 414, 415, 416, 417, 418, 419, 420, 411] (by decide +kernel) (by decide +kernel)) (goodIn_sub (fun _ h => List.mem_append_left _ (List.mem_append_right _ h)) (by decide +kernel))
set_option maxRecDepth 20000 in
theorem gL_law_X5_hours : GoodIn wsL_law (wsV RL 89 RX5 yX5_hours wsX5_hours) := goodIn_app (goodIn_of _ (by decide +kernel)) ggL_law_X5_hours
set_option maxRecDepth 20000 in
theorem ggL_law_L_coal : GoodIn wsL_law wsL_coal := goodIn_ca (goodIn_r _ [385, 386, 387, 388, 2, 389, 354, 119, 120, 121, 122, 123, 124, 125, 126, 127, 128, 129, 13, 130, 57, 58, 59, 12, 60, 61, 131, 132, 133, 134, 135, 136, 137, 138, 139, 140, 141, 142, 143, 144, 145, 146, 22, 390, 391, 392, 393, 327, 172, 173, 174, 175, 14, 176, 248, 249, 250, 251, 252, 165, 166, 167, 168, 169, 170, 171, 289, 290, 291, 292, 293, 190, 191, 192, 193, 194, 195, 196, 197, 198, 15, 199, 401, 402, 403, 404, 405, 406, 407, 411, 408, 409, 410, 412, 413, 414, 415, 416, 417, 418, 419, 420, 421, 422, 423, 424, 425] (by decide +kernel) (by decide +kernel)) (goodIn_sub (fun _ h => List.mem_append_right _ h) (by decide +kernel))
set_option maxRecDepth 20000 in
theorem gL_law_L_coal : GoodIn wsL_law (va_wsS RL 92 yL_coal wsL_coal) := goodIn_app (goodIn_of _ (by decide +kernel)) ggL_law_L_coal
set_option maxRecDepth 20000 in
theorem ggL_law_L_ships : GoodIn wsL_law wsL_ships := goodIn_ca (goodIn_ca (goodIn_r _ [396, 226, 227, 228, 2, 229, 205, 230, 231, 232, 233, 128, 129, 16, 204, 57, 58, 59, 12, 60, 61, 131, 132, 133, 134, 135, 136, 137, 138, 139, 140, 141, 142, 143, 144, 145, 146, 22, 397, 398, 399, 400, 353, 200, 201, 202, 203, 55, 56, 17, 206, 386, 387, 388, 389, 354, 426, 427, 428, 429, 401, 402, 403, 404, 405, 406, 407, 408, 409, 410] (by decide +kernel) (by decide +kernel)) (goodIn_sub (fun _ h => List.mem_append_right _ h) (by decide +kernel))) (goodIn_sub (fun _ h => List.mem_append_left _ (List.mem_append_right _ h)) (by decide +kernel))
set_option maxRecDepth 20000 in
theorem gL_law_L_ships : GoodIn wsL_law (va_wsS RL 96 yL_ships wsL_ships) := goodIn_app (goodIn_of _ (by decide +kernel)) ggL_law_L_ships
theorem dL_law_0 : decode cL_law 0 = .ok (.new 11, 3) := by decide +kernel
theorem dL_law_3 : decode cL_law 3 = .ok (.dup, 1) := by decide +kernel
theorem dL_law_4 : decode cL_law 4 = .ok (.invokespecial 65, 3) := by decide +kernel
theorem dL_law_7 : decode cL_law 7 = .ok (.astore_n 1, 1) := by decide +kernel
theorem dL_law_8 : decode cL_law 8 = .ok (.bipush 6, 2) := by decide +kernel
theorem dL_law_10 : decode cL_law 10 = .ok (.newarray .int, 2) := by decide +kernel
theorem dL_law_12 : decode cL_law 12 = .ok (.astore_n 2, 1) := by decide +kernel
theorem dL_law_13 : decode cL_law 13 = .ok (.iconst 0, 1) := by decide +kernel
theorem dL_law_14 : decode cL_law 14 = .ok (.istore_n 3, 1) := by decide +kernel
theorem dL_law_15 : decode cL_law 15 = .ok (.iconst 0, 1) := by decide +kernel
theorem dL_law_16 : decode cL_law 16 = .ok (.istore 4, 2) := by decide +kernel
theorem dL_law_18 : decode cL_law 18 = .ok (.iconst 0, 1) := by decide +kernel
theorem dL_law_19 : decode cL_law 19 = .ok (.istore 5, 2) := by decide +kernel
theorem dL_law_21 : decode cL_law 21 = .ok (.iconst 0, 1) := by decide +kernel
theorem dL_law_22 : decode cL_law 22 = .ok (.istore 6, 2) := by decide +kernel
theorem dL_law_24 : decode cL_law 24 = .ok (.iconst 0, 1) := by decide +kernel
theorem dL_law_25 : decode cL_law 25 = .ok (.istore 7, 2) := by decide +kernel
theorem dL_law_27 : decode cL_law 27 = .ok (.iconst 0, 1) := by decide +kernel
theorem dL_law_28 : decode cL_law 28 = .ok (.istore 8, 2) := by decide +kernel
theorem dL_law_30 : decode cL_law 30 = .ok (.iconst 0, 1) := by decide +kernel
theorem dL_law_31 : decode cL_law 31 = .ok (.istore 9, 2) := by decide +kernel
theorem dL_law_33 : decode cL_law 33 = .ok (.iload 9, 2) := by decide +kernel
theorem dL_law_35 : decode cL_law 35 = .ok (.bipush 70, 2) := by decide +kernel
theorem dL_law_37 : decode cL_law 37 = .ok (.if_icmp .ge 434, 3) := by decide +kernel
theorem dL_law_40 : decode cL_law 40 = .ok (.aload_n 0, 1) := by decide +kernel
theorem dL_law_41 : decode cL_law 41 = .ok (.iconst 2, 1) := by decide +kernel
theorem dL_law_42 : decode cL_law 42 = .ok (.iload 9, 2) := by decide +kernel
theorem dL_law_44 : decode cL_law 44 = .ok (.imul, 1) := by decide +kernel
theorem dL_law_45 : decode cL_law 45 = .ok (.invokestatic 66, 3) := by decide +kernel
theorem dL_law_48 : decode cL_law 48 = .ok (.istore 10, 2) := by decide +kernel
theorem dL_law_50 : decode cL_law 50 = .ok (.aload_n 0, 1) := by decide +kernel
theorem dL_law_51 : decode cL_law 51 = .ok (.iconst 2, 1) := by decide +kernel
theorem dL_law_52 : decode cL_law 52 = .ok (.iload 9, 2) := by decide +kernel
theorem dL_law_54 : decode cL_law 54 = .ok (.imul, 1) := by decide +kernel
theorem dL_law_55 : decode cL_law 55 = .ok (.iconst 1, 1) := by decide +kernel
theorem dL_law_56 : decode cL_law 56 = .ok (.iadd, 1) := by decide +kernel
theorem dL_law_57 : decode cL_law 57 = .ok (.invokestatic 66, 3) := by decide +kernel
theorem dL_law_60 : decode cL_law 60 = .ok (.istore 11, 2) := by decide +kernel
theorem dL_law_62 : decode cL_law 62 = .ok (.iload 10, 2) := by decide +kernel
theorem dL_law_64 : decode cL_law 64 = .ok (.bipush 12, 2) := by decide +kernel
theorem dL_law_66 : decode cL_law 66 = .ok (.invokestatic 44, 3) := by decide +kernel
theorem dL_law_69 : decode cL_law 69 = .ok (.istore 12, 2) := by decide +kernel
theorem dL_law_71 : decode cL_law 71 = .ok (.iconst 1, 1) := by decide +kernel
theorem dL_law_72 : decode cL_law 72 = .ok (.istore 13, 2) := by decide +kernel
theorem dL_law_74 : decode cL_law 74 = .ok (.iload 4, 2) := by decide +kernel
theorem dL_law_76 : decode cL_law 76 = .ok (.ifCond .eq 14, 3) := by decide +kernel
theorem dL_law_79 : decode cL_law 79 = .ok (.iload 12, 2) := by decide +kernel
theorem dL_law_81 : decode cL_law 81 = .ok (.ifCond .ne 59, 3) := by decide +kernel
theorem dL_law_84 : decode cL_law 84 = .ok (.iload 4, 2) := by decide +kernel
theorem dL_law_86 : decode cL_law 86 = .ok (.iconst 3, 1) := by decide +kernel
theorem dL_law_87 : decode cL_law 87 = .ok (.if_icmp .ge 53, 3) := by decide +kernel
theorem dL_law_90 : decode cL_law 90 = .ok (.iload 11, 2) := by decide +kernel
theorem dL_law_92 : decode cL_law 92 = .ok (.sipush 4000, 3) := by decide +kernel
theorem dL_law_95 : decode cL_law 95 = .ok (.invokestatic 44, 3) := by decide +kernel
theorem dL_law_98 : decode cL_law 98 = .ok (.istore 14, 2) := by decide +kernel
theorem dL_law_100 : decode cL_law 100 = .ok (.iload_n 3, 1) := by decide +kernel
theorem dL_law_101 : decode cL_law 101 = .ok (.iload 14, 2) := by decide +kernel
theorem dL_law_103 : decode cL_law 103 = .ok (.iadd, 1) := by decide +kernel
theorem dL_law_104 : decode cL_law 104 = .ok (.istore_n 3, 1) := by decide +kernel
theorem dL_law_105 : decode cL_law 105 = .ok (.aload_n 1, 1) := by decide +kernel
theorem dL_law_106 : decode cL_law 106 = .ok (.iload 14, 2) := by decide +kernel
theorem dL_law_108 : decode cL_law 108 = .ok (.invokevirtual 70, 3) := by decide +kernel
theorem dL_law_111 : decode cL_law 111 = .ok (.iload 4, 2) := by decide +kernel
theorem dL_law_113 : decode cL_law 113 = .ok (.if_icmp .ne 18, 3) := by decide +kernel
theorem dL_law_116 : decode cL_law 116 = .ok (.aload_n 1, 1) := by decide +kernel
theorem dL_law_117 : decode cL_law 117 = .ok (.iload 4, 2) := by decide +kernel
theorem dL_law_119 : decode cL_law 119 = .ok (.invokevirtual 16, 3) := by decide +kernel
theorem dL_law_122 : decode cL_law 122 = .ok (.iload 14, 2) := by decide +kernel
theorem dL_law_124 : decode cL_law 124 = .ok (.if_icmp .ne 7, 3) := by decide +kernel
theorem dL_law_127 : decode cL_law 127 = .ok (.iconst 1, 1) := by decide +kernel
theorem dL_law_128 : decode cL_law 128 = .ok (.goto 4, 3) := by decide +kernel
theorem dL_law_131 : decode cL_law 131 = .ok (.iconst 0, 1) := by decide +kernel
theorem dL_law_132 : decode cL_law 132 = .ok (.istore 13, 2) := by decide +kernel
theorem dL_law_134 : decode cL_law 134 = .ok (.iinc 4 1, 3) := by decide +kernel
theorem dL_law_137 : decode cL_law 137 = .ok (.goto 297, 3) := by decide +kernel
theorem dL_law_140 : decode cL_law 140 = .ok (.iload 5, 2) := by decide +kernel
theorem dL_law_142 : decode cL_law 142 = .ok (.ifCond .eq 16, 3) := by decide +kernel
theorem dL_law_145 : decode cL_law 145 = .ok (.iload 12, 2) := by decide +kernel
theorem dL_law_147 : decode cL_law 147 = .ok (.iconst 1, 1) := by decide +kernel
theorem dL_law_148 : decode cL_law 148 = .ok (.if_icmp .ne 61, 3) := by decide +kernel
theorem dL_law_151 : decode cL_law 151 = .ok (.iload 5, 2) := by decide +kernel
theorem dL_law_153 : decode cL_law 153 = .ok (.bipush 6, 2) := by decide +kernel
theorem dL_law_155 : decode cL_law 155 = .ok (.if_icmp .ge 54, 3) := by decide +kernel
theorem dL_law_158 : decode cL_law 158 = .ok (.aload_n 2, 1) := by decide +kernel
theorem dL_law_159 : decode cL_law 159 = .ok (.iload 5, 2) := by decide +kernel
theorem dL_law_161 : decode cL_law 161 = .ok (.bipush 20, 2) := by decide +kernel
theorem dL_law_163 : decode cL_law 163 = .ok (.iload 11, 2) := by decide +kernel
theorem dL_law_165 : decode cL_law 165 = .ok (.sipush 481, 3) := by decide +kernel
theorem dL_law_168 : decode cL_law 168 = .ok (.invokestatic 44, 3) := by decide +kernel
theorem dL_law_171 : decode cL_law 171 = .ok (.iadd, 1) := by decide +kernel
theorem dL_law_172 : decode cL_law 172 = .ok (.iastore, 1) := by decide +kernel
theorem dL_law_173 : decode cL_law 173 = .ok (.aload_n 1, 1) := by decide +kernel
theorem dL_law_174 : decode cL_law 174 = .ok (.aload_n 2, 1) := by decide +kernel
theorem dL_law_175 : decode cL_law 175 = .ok (.iload 5, 2) := by decide +kernel
theorem dL_law_177 : decode cL_law 177 = .ok (.iaload, 1) := by decide +kernel
theorem dL_law_178 : decode cL_law 178 = .ok (.invokevirtual 73, 3) := by decide +kernel
theorem dL_law_181 : decode cL_law 181 = .ok (.iload 5, 2) := by decide +kernel
theorem dL_law_183 : decode cL_law 183 = .ok (.if_icmp .ne 17, 3) := by decide +kernel
theorem dL_law_186 : decode cL_law 186 = .ok (.aload_n 1, 1) := by decide +kernel
theorem dL_law_187 : decode cL_law 187 = .ok (.iload 5, 2) := by decide +kernel
theorem dL_law_189 : decode cL_law 189 = .ok (.invokevirtual 26, 3) := by decide +kernel
theorem dL_law_192 : decode cL_law 192 = .ok (.iconst (-1), 1) := by decide +kernel
theorem dL_law_193 : decode cL_law 193 = .ok (.if_icmp .ne 7, 3) := by decide +kernel
theorem dL_law_196 : decode cL_law 196 = .ok (.iconst 1, 1) := by decide +kernel
theorem dL_law_197 : decode cL_law 197 = .ok (.goto 4, 3) := by decide +kernel
theorem dL_law_200 : decode cL_law 200 = .ok (.iconst 0, 1) := by decide +kernel
theorem dL_law_201 : decode cL_law 201 = .ok (.istore 13, 2) := by decide +kernel
theorem dL_law_203 : decode cL_law 203 = .ok (.iinc 5 1, 3) := by decide +kernel
theorem dL_law_206 : decode cL_law 206 = .ok (.goto 228, 3) := by decide +kernel
theorem dL_law_209 : decode cL_law 209 = .ok (.iload 6, 2) := by decide +kernel
theorem dL_law_211 : decode cL_law 211 = .ok (.ifCond .eq 16, 3) := by decide +kernel
theorem dL_law_214 : decode cL_law 214 = .ok (.iload 12, 2) := by decide +kernel
theorem dL_law_216 : decode cL_law 216 = .ok (.iconst 2, 1) := by decide +kernel
theorem dL_law_217 : decode cL_law 217 = .ok (.if_icmp .ne 50, 3) := by decide +kernel
theorem dL_law_220 : decode cL_law 220 = .ok (.iload 6, 2) := by decide +kernel
theorem dL_law_222 : decode cL_law 222 = .ok (.bipush 6, 2) := by decide +kernel
theorem dL_law_224 : decode cL_law 224 = .ok (.if_icmp .ge 43, 3) := by decide +kernel
theorem dL_law_227 : decode cL_law 227 = .ok (.aload_n 1, 1) := by decide +kernel
theorem dL_law_228 : decode cL_law 228 = .ok (.iconst 1, 1) := by decide +kernel
theorem dL_law_229 : decode cL_law 229 = .ok (.iload 11, 2) := by decide +kernel
theorem dL_law_231 : decode cL_law 231 = .ok (.bipush 20, 2) := by decide +kernel
theorem dL_law_233 : decode cL_law 233 = .ok (.invokestatic 44, 3) := by decide +kernel
theorem dL_law_236 : decode cL_law 236 = .ok (.iadd, 1) := by decide +kernel
theorem dL_law_237 : decode cL_law 237 = .ok (.invokevirtual 76, 3) := by decide +kernel
theorem dL_law_240 : decode cL_law 240 = .ok (.iload 6, 2) := by decide +kernel
theorem dL_law_242 : decode cL_law 242 = .ok (.if_icmp .ne 16, 3) := by decide +kernel
theorem dL_law_245 : decode cL_law 245 = .ok (.aload_n 1, 1) := by decide +kernel
theorem dL_law_246 : decode cL_law 246 = .ok (.iload 6, 2) := by decide +kernel
theorem dL_law_248 : decode cL_law 248 = .ok (.invokevirtual 32, 3) := by decide +kernel
theorem dL_law_251 : decode cL_law 251 = .ok (.ifCond .ne 7, 3) := by decide +kernel
theorem dL_law_254 : decode cL_law 254 = .ok (.iconst 1, 1) := by decide +kernel
theorem dL_law_255 : decode cL_law 255 = .ok (.goto 4, 3) := by decide +kernel
theorem dL_law_258 : decode cL_law 258 = .ok (.iconst 0, 1) := by decide +kernel
theorem dL_law_259 : decode cL_law 259 = .ok (.istore 13, 2) := by decide +kernel
theorem dL_law_261 : decode cL_law 261 = .ok (.iinc 6 1, 3) := by decide +kernel
theorem dL_law_264 : decode cL_law 264 = .ok (.goto 170, 3) := by decide +kernel
theorem dL_law_267 : decode cL_law 267 = .ok (.iload 7, 2) := by decide +kernel
theorem dL_law_269 : decode cL_law 269 = .ok (.ifCond .eq 19, 3) := by decide +kernel
theorem dL_law_272 : decode cL_law 272 = .ok (.iload 12, 2) := by decide +kernel
theorem dL_law_274 : decode cL_law 274 = .ok (.iconst 3, 1) := by decide +kernel
theorem dL_law_275 : decode cL_law 275 = .ok (.if_icmp .ne 77, 3) := by decide +kernel
theorem dL_law_278 : decode cL_law 278 = .ok (.aload_n 1, 1) := by decide +kernel
theorem dL_law_279 : decode cL_law 279 = .ok (.bipush 7, 2) := by decide +kernel
theorem dL_law_281 : decode cL_law 281 = .ok (.invokevirtual 41, 3) := by decide +kernel
theorem dL_law_284 : decode cL_law 284 = .ok (.iconst (-1), 1) := by decide +kernel
theorem dL_law_285 : decode cL_law 285 = .ok (.if_icmp .ne 67, 3) := by decide +kernel
theorem dL_law_288 : decode cL_law 288 = .ok (.iconst 1, 1) := by decide +kernel
theorem dL_law_289 : decode cL_law 289 = .ok (.iload 11, 2) := by decide +kernel
theorem dL_law_291 : decode cL_law 291 = .ok (.sipush 900, 3) := by decide +kernel
theorem dL_law_294 : decode cL_law 294 = .ok (.invokestatic 44, 3) := by decide +kernel
theorem dL_law_297 : decode cL_law 297 = .ok (.iadd, 1) := by decide +kernel
theorem dL_law_298 : decode cL_law 298 = .ok (.istore 14, 2) := by decide +kernel
theorem dL_law_300 : decode cL_law 300 = .ok (.iload 8, 2) := by decide +kernel
theorem dL_law_302 : decode cL_law 302 = .ok (.iload 14, 2) := by decide +kernel
theorem dL_law_304 : decode cL_law 304 = .ok (.iadd, 1) := by decide +kernel
theorem dL_law_305 : decode cL_law 305 = .ok (.istore 8, 2) := by decide +kernel
theorem dL_law_307 : decode cL_law 307 = .ok (.aload_n 1, 1) := by decide +kernel
theorem dL_law_308 : decode cL_law 308 = .ok (.iload 14, 2) := by decide +kernel
theorem dL_law_310 : decode cL_law 310 = .ok (.iconst 1, 1) := by decide +kernel
theorem dL_law_311 : decode cL_law 311 = .ok (.iload 11, 2) := by decide +kernel
theorem dL_law_313 : decode cL_law 313 = .ok (.bipush 11, 2) := by decide +kernel
theorem dL_law_315 : decode cL_law 315 = .ok (.ishr, 1) := by decide +kernel
theorem dL_law_316 : decode cL_law 316 = .ok (.bipush 60, 2) := by decide +kernel
theorem dL_law_318 : decode cL_law 318 = .ok (.invokestatic 44, 3) := by decide +kernel
theorem dL_law_321 : decode cL_law 321 = .ok (.iadd, 1) := by decide +kernel
theorem dL_law_322 : decode cL_law 322 = .ok (.invokevirtual 79, 3) := by decide +kernel
theorem dL_law_325 : decode cL_law 325 = .ok (.iload 7, 2) := by decide +kernel
theorem dL_law_327 : decode cL_law 327 = .ok (.if_icmp .ne 16, 3) := by decide +kernel
theorem dL_law_330 : decode cL_law 330 = .ok (.aload_n 1, 1) := by decide +kernel
theorem dL_law_331 : decode cL_law 331 = .ok (.iload 7, 2) := by decide +kernel
theorem dL_law_333 : decode cL_law 333 = .ok (.invokevirtual 35, 3) := by decide +kernel
theorem dL_law_336 : decode cL_law 336 = .ok (.ifCond .ne 7, 3) := by decide +kernel
theorem dL_law_339 : decode cL_law 339 = .ok (.iconst 1, 1) := by decide +kernel
theorem dL_law_340 : decode cL_law 340 = .ok (.goto 4, 3) := by decide +kernel
theorem dL_law_343 : decode cL_law 343 = .ok (.iconst 0, 1) := by decide +kernel
theorem dL_law_344 : decode cL_law 344 = .ok (.istore 13, 2) := by decide +kernel
theorem dL_law_346 : decode cL_law 346 = .ok (.iinc 7 1, 3) := by decide +kernel
theorem dL_law_349 : decode cL_law 349 = .ok (.goto 85, 3) := by decide +kernel
theorem dL_law_352 : decode cL_law 352 = .ok (.iload 12, 2) := by decide +kernel
theorem dL_law_354 : decode cL_law 354 = .ok (.bipush 8, 2) := by decide +kernel
theorem dL_law_356 : decode cL_law 356 = .ok (.if_icmp .ge 29, 3) := by decide +kernel
theorem dL_law_359 : decode cL_law 359 = .ok (.aload_n 1, 1) := by decide +kernel
theorem dL_law_360 : decode cL_law 360 = .ok (.iload 5, 2) := by decide +kernel
theorem dL_law_362 : decode cL_law 362 = .ok (.iload 10, 2) := by decide +kernel
theorem dL_law_364 : decode cL_law 364 = .ok (.iconst 5, 1) := by decide +kernel
theorem dL_law_365 : decode cL_law 365 = .ok (.ishr, 1) := by decide +kernel
theorem dL_law_366 : decode cL_law 366 = .ok (.iload 6, 2) := by decide +kernel
theorem dL_law_368 : decode cL_law 368 = .ok (.invokestatic 44, 3) := by decide +kernel
theorem dL_law_371 : decode cL_law 371 = .ok (.iload 7, 2) := by decide +kernel
theorem dL_law_373 : decode cL_law 373 = .ok (.iload 4, 2) := by decide +kernel
theorem dL_law_375 : decode cL_law 375 = .ok (.iload 11, 2) := by decide +kernel
theorem dL_law_377 : decode cL_law 377 = .ok (.invokestatic 82, 3) := by decide +kernel
theorem dL_law_380 : decode cL_law 380 = .ok (.istore 13, 2) := by decide +kernel
theorem dL_law_382 : decode cL_law 382 = .ok (.goto 52, 3) := by decide +kernel
theorem dL_law_385 : decode cL_law 385 = .ok (.aload_n 1, 1) := by decide +kernel
theorem dL_law_386 : decode cL_law 386 = .ok (.invokevirtual 86, 3) := by decide +kernel
theorem dL_law_389 : decode cL_law 389 = .ok (.istore 14, 2) := by decide +kernel
theorem dL_law_391 : decode cL_law 391 = .ok (.iconst 1, 1) := by decide +kernel
theorem dL_law_392 : decode cL_law 392 = .ok (.iload 11, 2) := by decide +kernel
theorem dL_law_394 : decode cL_law 394 = .ok (.bipush 9, 2) := by decide +kernel
theorem dL_law_396 : decode cL_law 396 = .ok (.invokestatic 44, 3) := by decide +kernel
theorem dL_law_399 : decode cL_law 399 = .ok (.iadd, 1) := by decide +kernel
theorem dL_law_400 : decode cL_law 400 = .ok (.istore 15, 2) := by decide +kernel
theorem dL_law_402 : decode cL_law 402 = .ok (.aload_n 1, 1) := by decide +kernel
theorem dL_law_403 : decode cL_law 403 = .ok (.iload 15, 2) := by decide +kernel
theorem dL_law_405 : decode cL_law 405 = .ok (.invokevirtual 89, 3) := by decide +kernel
theorem dL_law_408 : decode cL_law 408 = .ok (.istore 16, 2) := by decide +kernel
theorem dL_law_410 : decode cL_law 410 = .ok (.iload 16, 2) := by decide +kernel
theorem dL_law_412 : decode cL_law 412 = .ok (.ifCond .lt 19, 3) := by decide +kernel
theorem dL_law_415 : decode cL_law 415 = .ok (.aload_n 1, 1) := by decide +kernel
theorem dL_law_416 : decode cL_law 416 = .ok (.invokevirtual 86, 3) := by decide +kernel
theorem dL_law_419 : decode cL_law 419 = .ok (.iload 14, 2) := by decide +kernel
theorem dL_law_421 : decode cL_law 421 = .ok (.iload 15, 2) := by decide +kernel
theorem dL_law_423 : decode cL_law 423 = .ok (.iadd, 1) := by decide +kernel
theorem dL_law_424 : decode cL_law 424 = .ok (.if_icmp .ne 7, 3) := by decide +kernel
theorem dL_law_427 : decode cL_law 427 = .ok (.iconst 1, 1) := by decide +kernel
theorem dL_law_428 : decode cL_law 428 = .ok (.goto 4, 3) := by decide +kernel
theorem dL_law_431 : decode cL_law 431 = .ok (.iconst 0, 1) := by decide +kernel
theorem dL_law_432 : decode cL_law 432 = .ok (.istore 13, 2) := by decide +kernel
theorem dL_law_434 : decode cL_law 434 = .ok (.iload 13, 2) := by decide +kernel
theorem dL_law_436 : decode cL_law 436 = .ok (.ifCond .eq 27, 3) := by decide +kernel
theorem dL_law_439 : decode cL_law 439 = .ok (.aload_n 1, 1) := by decide +kernel
theorem dL_law_440 : decode cL_law 440 = .ok (.iload_n 3, 1) := by decide +kernel
theorem dL_law_441 : decode cL_law 441 = .ok (.iload 4, 2) := by decide +kernel
theorem dL_law_443 : decode cL_law 443 = .ok (.aload_n 2, 1) := by decide +kernel
theorem dL_law_444 : decode cL_law 444 = .ok (.iload 5, 2) := by decide +kernel
theorem dL_law_446 : decode cL_law 446 = .ok (.invokestatic 92, 3) := by decide +kernel
theorem dL_law_449 : decode cL_law 449 = .ok (.ifCond .eq 14, 3) := by decide +kernel
theorem dL_law_452 : decode cL_law 452 = .ok (.aload_n 1, 1) := by decide +kernel
theorem dL_law_453 : decode cL_law 453 = .ok (.iload 7, 2) := by decide +kernel
theorem dL_law_455 : decode cL_law 455 = .ok (.iload 8, 2) := by decide +kernel
theorem dL_law_457 : decode cL_law 457 = .ok (.invokestatic 96, 3) := by decide +kernel
theorem dL_law_460 : decode cL_law 460 = .ok (.ifCond .ne 5, 3) := by decide +kernel
theorem dL_law_463 : decode cL_law 463 = .ok (.iconst 0, 1) := by decide +kernel
theorem dL_law_464 : decode cL_law 464 = .ok (.ireturn, 1) := by decide +kernel
theorem dL_law_465 : decode cL_law 465 = .ok (.iinc 9 1, 3) := by decide +kernel
theorem dL_law_468 : decode cL_law 468 = .ok (.goto (-435), 3) := by decide +kernel
theorem dL_law_471 : decode cL_law 471 = .ok (.iconst 1, 1) := by decide +kernel
theorem dL_law_472 : decode cL_law 472 = .ok (.ireturn, 1) := by decide +kernel
