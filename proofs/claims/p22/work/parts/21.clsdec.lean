theorem dX0_init_0 : decode cX0_init 0 = .ok (.aload_n 0, 1) := by decide +kernel
theorem dX0_init_1 : decode cX0_init 1 = .ok (.invokespecial 3, 3) := by decide +kernel
theorem dX0_init_4 : decode cX0_init 4 = .ok (.aload_n 0, 1) := by decide +kernel
theorem dX0_init_5 : decode cX0_init 5 = .ok (.iload_n 1, 1) := by decide +kernel
theorem dX0_init_6 : decode cX0_init 6 = .ok (.putfield 9, 3) := by decide +kernel
theorem dX0_init_9 : decode cX0_init 9 = .ok (.aload_n 0, 1) := by decide +kernel
theorem dX0_init_10 : decode cX0_init 10 = .ok (.iload_n 2, 1) := by decide +kernel
theorem dX0_init_11 : decode cX0_init 11 = .ok (.putfield 15, 3) := by decide +kernel
theorem dX0_init_14 : decode cX0_init 14 = .ok (.return_, 1) := by decide +kernel
theorem dX0_isFree_0 : decode cX0_isFree 0 = .ok (.aload_n 0, 1) := by decide +kernel
theorem dX0_isFree_1 : decode cX0_isFree 1 = .ok (.getfield 18, 3) := by decide +kernel
theorem dX0_isFree_4 : decode cX0_isFree 4 = .ok (.ifCond .ne 14, 3) := by decide +kernel
theorem dX0_isFree_7 : decode cX0_isFree 7 = .ok (.aload_n 0, 1) := by decide +kernel
theorem dX0_isFree_8 : decode cX0_isFree 8 = .ok (.getfield 22, 3) := by decide +kernel
theorem dX0_isFree_11 : decode cX0_isFree 11 = .ok (.ifCond .ne 7, 3) := by decide +kernel
theorem dX0_isFree_14 : decode cX0_isFree 14 = .ok (.iconst 1, 1) := by decide +kernel
theorem dX0_isFree_15 : decode cX0_isFree 15 = .ok (.goto 4, 3) := by decide +kernel
theorem dX0_isFree_18 : decode cX0_isFree 18 = .ok (.iconst 0, 1) := by decide +kernel
theorem dX0_isFree_19 : decode cX0_isFree 19 = .ok (.ireturn, 1) := by decide +kernel
theorem dX0_strength_0 : decode cX0_strength 0 = .ok (.iconst 4, 1) := by decide +kernel
theorem dX0_strength_1 : decode cX0_strength 1 = .ok (.aload_n 0, 1) := by decide +kernel
theorem dX0_strength_2 : decode cX0_strength 2 = .ok (.getfield 15, 3) := by decide +kernel
theorem dX0_strength_5 : decode cX0_strength 5 = .ok (.imul, 1) := by decide +kernel
theorem dX0_strength_6 : decode cX0_strength 6 = .ok (.iload_n 1, 1) := by decide +kernel
theorem dX0_strength_7 : decode cX0_strength 7 = .ok (.iconst 5, 1) := by decide +kernel
theorem dX0_strength_8 : decode cX0_strength 8 = .ok (.idiv, 1) := by decide +kernel
theorem dX0_strength_9 : decode cX0_strength 9 = .ok (.isub, 1) := by decide +kernel
theorem dX0_strength_10 : decode cX0_strength 10 = .ok (.istore_n 2, 1) := by decide +kernel
theorem dX0_strength_11 : decode cX0_strength 11 = .ok (.iload_n 2, 1) := by decide +kernel
theorem dX0_strength_12 : decode cX0_strength 12 = .ok (.iconst 1, 1) := by decide +kernel
theorem dX0_strength_13 : decode cX0_strength 13 = .ok (.if_icmp .le 7, 3) := by decide +kernel
theorem dX0_strength_16 : decode cX0_strength 16 = .ok (.iload_n 2, 1) := by decide +kernel
theorem dX0_strength_17 : decode cX0_strength 17 = .ok (.goto 4, 3) := by decide +kernel
theorem dX0_strength_20 : decode cX0_strength 20 = .ok (.iconst 1, 1) := by decide +kernel
theorem dX0_strength_21 : decode cX0_strength 21 = .ok (.ireturn, 1) := by decide +kernel
theorem dX0_lieDown_0 : decode cX0_lieDown 0 = .ok (.aload_n 0, 1) := by decide +kernel
theorem dX0_lieDown_1 : decode cX0_lieDown 1 = .ok (.bipush 8, 2) := by decide +kernel
theorem dX0_lieDown_3 : decode cX0_lieDown 3 = .ok (.putfield 22, 3) := by decide +kernel
theorem dX0_lieDown_6 : decode cX0_lieDown 6 = .ok (.aload_n 0, 1) := by decide +kernel
theorem dX0_lieDown_7 : decode cX0_lieDown 7 = .ok (.iconst 0, 1) := by decide +kernel
theorem dX0_lieDown_8 : decode cX0_lieDown 8 = .ok (.putfield 25, 3) := by decide +kernel
theorem dX0_lieDown_11 : decode cX0_lieDown 11 = .ok (.return_, 1) := by decide +kernel
theorem dX1_init_0 : decode cX1_init 0 = .ok (.aload_n 0, 1) := by decide +kernel
theorem dX1_init_1 : decode cX1_init 1 = .ok (.invokespecial 1, 3) := by decide +kernel
theorem dX1_init_4 : decode cX1_init 4 = .ok (.aload_n 0, 1) := by decide +kernel
theorem dX1_init_5 : decode cX1_init 5 = .ok (.iload_n 1, 1) := by decide +kernel
theorem dX1_init_6 : decode cX1_init 6 = .ok (.putfield 7, 3) := by decide +kernel
theorem dX1_init_9 : decode cX1_init 9 = .ok (.return_, 1) := by decide +kernel
theorem dX2_init_0 : decode cX2_init 0 = .ok (.aload_n 0, 1) := by decide +kernel
theorem dX2_init_1 : decode cX2_init 1 = .ok (.invokespecial 3, 3) := by decide +kernel
theorem dX2_init_4 : decode cX2_init 4 = .ok (.aload_n 0, 1) := by decide +kernel
theorem dX2_init_5 : decode cX2_init 5 = .ok (.iload_n 1, 1) := by decide +kernel
theorem dX2_init_6 : decode cX2_init 6 = .ok (.putfield 9, 3) := by decide +kernel
theorem dX2_init_9 : decode cX2_init 9 = .ok (.aload_n 0, 1) := by decide +kernel
theorem dX2_init_10 : decode cX2_init 10 = .ok (.aload_n 2, 1) := by decide +kernel
theorem dX2_init_11 : decode cX2_init 11 = .ok (.putfield 15, 3) := by decide +kernel
theorem dX2_init_14 : decode cX2_init 14 = .ok (.aload_n 0, 1) := by decide +kernel
theorem dX2_init_15 : decode cX2_init 15 = .ok (.iconst 0, 1) := by decide +kernel
theorem dX2_init_16 : decode cX2_init 16 = .ok (.putfield 19, 3) := by decide +kernel
theorem dX2_init_19 : decode cX2_init 19 = .ok (.return_, 1) := by decide +kernel
theorem dX3_init_0 : decode cX3_init 0 = .ok (.aload_n 0, 1) := by decide +kernel
theorem dX3_init_1 : decode cX3_init 1 = .ok (.invokespecial 1, 3) := by decide +kernel
theorem dX3_init_4 : decode cX3_init 4 = .ok (.aload_n 0, 1) := by decide +kernel
theorem dX3_init_5 : decode cX3_init 5 = .ok (.aload_n 1, 1) := by decide +kernel
theorem dX3_init_6 : decode cX3_init 6 = .ok (.putfield 7, 3) := by decide +kernel
theorem dX3_init_9 : decode cX3_init 9 = .ok (.aload_n 0, 1) := by decide +kernel
theorem dX3_init_10 : decode cX3_init 10 = .ok (.aload_n 2, 1) := by decide +kernel
theorem dX3_init_11 : decode cX3_init 11 = .ok (.putfield 13, 3) := by decide +kernel
theorem dX3_init_14 : decode cX3_init 14 = .ok (.return_, 1) := by decide +kernel
theorem dX4_init_0 : decode cX4_init 0 = .ok (.aload_n 0, 1) := by decide +kernel
theorem dX4_init_1 : decode cX4_init 1 = .ok (.invokespecial 3, 3) := by decide +kernel
theorem dX4_init_4 : decode cX4_init 4 = .ok (.aload_n 0, 1) := by decide +kernel
theorem dX4_init_5 : decode cX4_init 5 = .ok (.iload_n 1, 1) := by decide +kernel
theorem dX4_init_6 : decode cX4_init 6 = .ok (.putfield 9, 3) := by decide +kernel
theorem dX4_init_9 : decode cX4_init 9 = .ok (.aload_n 0, 1) := by decide +kernel
theorem dX4_init_10 : decode cX4_init 10 = .ok (.iload_n 2, 1) := by decide +kernel
theorem dX4_init_11 : decode cX4_init 11 = .ok (.putfield 15, 3) := by decide +kernel
theorem dX4_init_14 : decode cX4_init 14 = .ok (.aload_n 0, 1) := by decide +kernel
theorem dX4_init_15 : decode cX4_init 15 = .ok (.iload_n 3, 1) := by decide +kernel
theorem dX4_init_16 : decode cX4_init 16 = .ok (.putfield 18, 3) := by decide +kernel
theorem dX4_init_19 : decode cX4_init 19 = .ok (.aload_n 0, 1) := by decide +kernel
theorem dX4_init_20 : decode cX4_init 20 = .ok (.iconst 0, 1) := by decide +kernel
theorem dX4_init_21 : decode cX4_init 21 = .ok (.putfield 21, 3) := by decide +kernel
theorem dX4_init_24 : decode cX4_init 24 = .ok (.return_, 1) := by decide +kernel
theorem dX4_hasLeft_0 : decode cX4_hasLeft 0 = .ok (.aload_n 0, 1) := by decide +kernel
theorem dX4_hasLeft_1 : decode cX4_hasLeft 1 = .ok (.getfield 21, 3) := by decide +kernel
theorem dX4_hasLeft_4 : decode cX4_hasLeft 4 = .ok (.iconst 2, 1) := by decide +kernel
theorem dX4_hasLeft_5 : decode cX4_hasLeft 5 = .ok (.if_icmp .eq 11, 3) := by decide +kernel
theorem dX4_hasLeft_8 : decode cX4_hasLeft 8 = .ok (.aload_n 0, 1) := by decide +kernel
theorem dX4_hasLeft_9 : decode cX4_hasLeft 9 = .ok (.getfield 21, 3) := by decide +kernel
theorem dX4_hasLeft_12 : decode cX4_hasLeft 12 = .ok (.iconst 3, 1) := by decide +kernel
theorem dX4_hasLeft_13 : decode cX4_hasLeft 13 = .ok (.if_icmp .ne 7, 3) := by decide +kernel
theorem dX4_hasLeft_16 : decode cX4_hasLeft 16 = .ok (.iconst 1, 1) := by decide +kernel
theorem dX4_hasLeft_17 : decode cX4_hasLeft 17 = .ok (.goto 4, 3) := by decide +kernel
theorem dX4_hasLeft_20 : decode cX4_hasLeft 20 = .ok (.iconst 0, 1) := by decide +kernel
theorem dX4_hasLeft_21 : decode cX4_hasLeft 21 = .ok (.ireturn, 1) := by decide +kernel
set_option maxRecDepth 20000 in
theorem ggX5_init_Jx4a65c_init_da8c8 : GoodIn wsX5_init wsJx4a65c_init_da8c8 := goodIn_r _ [14, 15, 16, 17, 18, 19, 20, 21, 22, 23, 24, 25, 26, 2, 3, 27, 28, 29] (by decide +kernel) (by decide +kernel)
set_option maxRecDepth 20000 in
theorem gX5_init_Jx4a65c_init_da8c8 : GoodIn wsX5_init (wsJx4a65c_init_da8c8) := ggX5_init_Jx4a65c_init_da8c8
theorem dX5_init_0 : decode cX5_init 0 = .ok (.aload_n 0, 1) := by decide +kernel
theorem dX5_init_1 : decode cX5_init 1 = .ok (.invokespecial 1, 3) := by decide +kernel
theorem dX5_init_4 : decode cX5_init 4 = .ok (.aload_n 0, 1) := by decide +kernel
theorem dX5_init_5 : decode cX5_init 5 = .ok (.new 7, 3) := by decide +kernel
theorem dX5_init_8 : decode cX5_init 8 = .ok (.dup, 1) := by decide +kernel
theorem dX5_init_9 : decode cX5_init 9 = .ok (.invokespecial 9, 3) := by decide +kernel
theorem dX5_init_12 : decode cX5_init 12 = .ok (.putfield 10, 3) := by decide +kernel
theorem dX5_init_15 : decode cX5_init 15 = .ok (.aload_n 0, 1) := by decide +kernel
theorem dX5_init_16 : decode cX5_init 16 = .ok (.new 7, 3) := by decide +kernel
theorem dX5_init_19 : decode cX5_init 19 = .ok (.dup, 1) := by decide +kernel
theorem dX5_init_20 : decode cX5_init 20 = .ok (.invokespecial 9, 3) := by decide +kernel
theorem dX5_init_23 : decode cX5_init 23 = .ok (.putfield 16, 3) := by decide +kernel
theorem dX5_init_26 : decode cX5_init 26 = .ok (.aload_n 0, 1) := by decide +kernel
theorem dX5_init_27 : decode cX5_init 27 = .ok (.new 7, 3) := by decide +kernel
theorem dX5_init_30 : decode cX5_init 30 = .ok (.dup, 1) := by decide +kernel
theorem dX5_init_31 : decode cX5_init 31 = .ok (.invokespecial 9, 3) := by decide +kernel
theorem dX5_init_34 : decode cX5_init 34 = .ok (.putfield 19, 3) := by decide +kernel
theorem dX5_init_37 : decode cX5_init 37 = .ok (.aload_n 0, 1) := by decide +kernel
theorem dX5_init_38 : decode cX5_init 38 = .ok (.new 7, 3) := by decide +kernel
theorem dX5_init_41 : decode cX5_init 41 = .ok (.dup, 1) := by decide +kernel
theorem dX5_init_42 : decode cX5_init 42 = .ok (.invokespecial 9, 3) := by decide +kernel
theorem dX5_init_45 : decode cX5_init 45 = .ok (.putfield 22, 3) := by decide +kernel
theorem dX5_init_48 : decode cX5_init 48 = .ok (.aload_n 0, 1) := by decide +kernel
theorem dX5_init_49 : decode cX5_init 49 = .ok (.new 7, 3) := by decide +kernel
theorem dX5_init_52 : decode cX5_init 52 = .ok (.dup, 1) := by decide +kernel
theorem dX5_init_53 : decode cX5_init 53 = .ok (.invokespecial 9, 3) := by decide +kernel
theorem dX5_init_56 : decode cX5_init 56 = .ok (.putfield 25, 3) := by decide +kernel
theorem dX5_init_59 : decode cX5_init 59 = .ok (.return_, 1) := by decide +kernel
set_option maxRecDepth 20000 in
theorem ggX5_hulk_X5_refuseOutOfRange : GoodIn wsX5_hulk wsX5_refuseOutOfRange := goodIn_ca (goodIn_r _ [10, 11, 12] (by decide +kernel) (by decide +kernel)) (goodIn_sub (fun _ h => List.mem_cons_of_mem _ (List.mem_append_right _ h)) (by decide +kernel))
set_option maxRecDepth 20000 in
theorem gX5_hulk_X5_refuseOutOfRange : GoodIn wsX5_hulk (va_wsS RX5 28 yX5_refuseOutOfRange wsX5_refuseOutOfRange) := goodIn_app (goodIn_of _ (by decide +kernel)) ggX5_hulk_X5_refuseOutOfRange
set_option maxRecDepth 20000 in
theorem ggX5_hulk_Jx4a65c_size_8abf5 : GoodIn wsX5_hulk wsJx4a65c_size_8abf5 := goodIn_r _ [17, 18, 88, 89, 90] (by decide +kernel) (by decide +kernel)
set_option maxRecDepth 20000 in
theorem gX5_hulk_Jx4a65c_size_8abf5 : GoodIn wsX5_hulk (wsV RX5 32 RJx4a65c yJx4a65c_size_8abf5 wsJx4a65c_size_8abf5) := goodIn_app (goodIn_of _ (by decide +kernel)) ggX5_hulk_Jx4a65c_size_8abf5
set_option maxRecDepth 20000 in
theorem ggX5_hulk_X1_init : GoodIn wsX5_hulk wsX1_init := goodIn_r _ [21, 22, 23, 24, 25, 87] (by decide +kernel) (by decide +kernel)
set_option maxRecDepth 20000 in
theorem gX5_hulk_X1_init : GoodIn wsX5_hulk (wsX1_init) := ggX5_hulk_X1_init
set_option maxRecDepth 20000 in
theorem ggX5_hulk_Jx4a65c_add_9ea2d : GoodIn wsX5_hulk wsJx4a65c_add_9ea2d := goodIn_r _ [29, 30, 31, 32, 18, 33, 34, 35, 16, 36, 37, 38, 39, 40, 41, 42, 43, 44, 45, 46, 47, 48, 49, 50, 51, 52, 53, 54, 55, 56, 57, 58, 59, 60, 61, 62, 63, 64, 65, 66, 67, 68, 69, 70, 71, 72, 73, 74, 75, 76, 77, 78, 79, 88, 89, 90] (by decide +kernel) (by decide +kernel)
set_option maxRecDepth 20000 in
theorem gX5_hulk_Jx4a65c_add_9ea2d : GoodIn wsX5_hulk (wsV RX5 48 RJx4a65c yJx4a65c_add_9ea2d wsJx4a65c_add_9ea2d) := goodIn_app (goodIn_of _ (by decide +kernel)) ggX5_hulk_Jx4a65c_add_9ea2d
theorem dX5_hulk_0 : decode cX5_hulk 0 = .ok (.iload_n 1, 1) := by decide +kernel
theorem dX5_hulk_1 : decode cX5_hulk 1 = .ok (.iconst 0, 1) := by decide +kernel
theorem dX5_hulk_2 : decode cX5_hulk 2 = .ok (.sipush 20000, 3) := by decide +kernel
theorem dX5_hulk_5 : decode cX5_hulk 5 = .ok (.invokestatic 28, 3) := by decide +kernel
theorem dX5_hulk_8 : decode cX5_hulk 8 = .ok (.aload_n 0, 1) := by decide +kernel
theorem dX5_hulk_9 : decode cX5_hulk 9 = .ok (.getfield 10, 3) := by decide +kernel
theorem dX5_hulk_12 : decode cX5_hulk 12 = .ok (.invokevirtual 32, 3) := by decide +kernel
theorem dX5_hulk_15 : decode cX5_hulk 15 = .ok (.istore_n 2, 1) := by decide +kernel
theorem dX5_hulk_16 : decode cX5_hulk 16 = .ok (.iload_n 2, 1) := by decide +kernel
theorem dX5_hulk_17 : decode cX5_hulk 17 = .ok (.iconst 3, 1) := by decide +kernel
theorem dX5_hulk_18 : decode cX5_hulk 18 = .ok (.if_icmp .lt 13, 3) := by decide +kernel
theorem dX5_hulk_21 : decode cX5_hulk 21 = .ok (.new 36, 3) := by decide +kernel
theorem dX5_hulk_24 : decode cX5_hulk 24 = .ok (.dup, 1) := by decide +kernel
theorem dX5_hulk_25 : decode cX5_hulk 25 = .ok (.ldc 38, 2) := by decide +kernel
theorem dX5_hulk_27 : decode cX5_hulk 27 = .ok (.invokespecial 40, 3) := by decide +kernel
theorem dX5_hulk_30 : decode cX5_hulk 30 = .ok (.athrow, 1) := by decide +kernel
theorem dX5_hulk_31 : decode cX5_hulk 31 = .ok (.aload_n 0, 1) := by decide +kernel
theorem dX5_hulk_32 : decode cX5_hulk 32 = .ok (.getfield 10, 3) := by decide +kernel
theorem dX5_hulk_35 : decode cX5_hulk 35 = .ok (.new 43, 3) := by decide +kernel
theorem dX5_hulk_38 : decode cX5_hulk 38 = .ok (.dup, 1) := by decide +kernel
theorem dX5_hulk_39 : decode cX5_hulk 39 = .ok (.iload_n 1, 1) := by decide +kernel
theorem dX5_hulk_40 : decode cX5_hulk 40 = .ok (.invokespecial 45, 3) := by decide +kernel
theorem dX5_hulk_43 : decode cX5_hulk 43 = .ok (.invokevirtual 48, 3) := by decide +kernel
theorem dX5_hulk_46 : decode cX5_hulk 46 = .ok (.pop, 1) := by decide +kernel
theorem dX5_hulk_47 : decode cX5_hulk 47 = .ok (.iload_n 2, 1) := by decide +kernel
theorem dX5_hulk_48 : decode cX5_hulk 48 = .ok (.ireturn, 1) := by decide +kernel
set_option maxRecDepth 20000 in
theorem ggX5_lighter_X5_refuseOutOfRange : GoodIn wsX5_lighter wsX5_refuseOutOfRange := goodIn_ca (goodIn_r _ [12, 13, 14] (by decide +kernel) (by decide +kernel)) (goodIn_sub (fun _ h => List.mem_cons_of_mem _ (List.mem_append_right _ h)) (by decide +kernel))
set_option maxRecDepth 20000 in
theorem gX5_lighter_X5_refuseOutOfRange : GoodIn wsX5_lighter (va_wsS RX5 28 yX5_refuseOutOfRange wsX5_refuseOutOfRange) := goodIn_app (goodIn_of _ (by decide +kernel)) ggX5_lighter_X5_refuseOutOfRange
set_option maxRecDepth 20000 in
theorem ggX5_lighter_Jx4a65c_size_8abf5 : GoodIn wsX5_lighter wsJx4a65c_size_8abf5 := goodIn_r _ [19, 20, 118, 119, 120] (by decide +kernel) (by decide +kernel)
set_option maxRecDepth 20000 in
theorem gX5_lighter_Jx4a65c_size_8abf5 : GoodIn wsX5_lighter (wsV RX5 32 RJx4a65c yJx4a65c_size_8abf5 wsJx4a65c_size_8abf5) := goodIn_app (goodIn_of _ (by decide +kernel)) ggX5_lighter_Jx4a65c_size_8abf5
set_option maxRecDepth 20000 in
theorem ggX5_lighter_Jx4a65c_isEmpty_aae02 : GoodIn wsX5_lighter wsJx4a65c_isEmpty_aae02 := goodIn_r _ [24, 20, 118, 119, 120] (by decide +kernel) (by decide +kernel)
set_option maxRecDepth 20000 in
theorem gX5_lighter_Jx4a65c_isEmpty_aae02 : GoodIn wsX5_lighter (wsV RX5 54 RJx4a65c yJx4a65c_isEmpty_aae02 wsJx4a65c_isEmpty_aae02) := goodIn_app (goodIn_of _ (by decide +kernel)) ggX5_lighter_Jx4a65c_isEmpty_aae02
set_option maxRecDepth 20000 in
theorem ggX5_lighter_Jx4a65c_get_915e3 : GoodIn wsX5_lighter wsJx4a65c_get_915e3 := goodIn_r _ [28, 20, 29, 30, 31, 32, 33, 34, 35, 36, 37, 38, 39, 18, 40, 41, 118, 119, 120] (by decide +kernel) (by decide +kernel)
set_option maxRecDepth 20000 in
theorem gX5_lighter_Jx4a65c_get_915e3 : GoodIn wsX5_lighter (wsV RX5 62 RJx4a65c yJx4a65c_get_915e3 wsJx4a65c_get_915e3) := goodIn_app (goodIn_of _ (by decide +kernel)) ggX5_lighter_Jx4a65c_get_915e3
set_option maxRecDepth 20000 in
theorem ggX5_lighter_X2_init : GoodIn wsX5_lighter wsX2_init := goodIn_r _ [44, 45, 46, 47, 48, 49, 50, 111, 112, 113, 114, 115, 116, 117] (by decide +kernel) (by decide +kernel)
set_option maxRecDepth 20000 in
theorem gX5_lighter_X2_init : GoodIn wsX5_lighter (wsX2_init) := ggX5_lighter_X2_init
set_option maxRecDepth 20000 in
theorem ggX5_lighter_Jx4a65c_add_9ea2d : GoodIn wsX5_lighter wsJx4a65c_add_9ea2d := goodIn_r _ [54, 55, 56, 41, 20, 57, 58, 59, 18, 60, 61, 62, 63, 64, 65, 66, 67, 68, 69, 70, 71, 72, 73, 74, 75, 76, 77, 78, 79, 80, 81, 82, 83, 84, 85, 86, 87, 88, 89, 90, 91, 92, 93, 94, 95, 96, 97, 98, 99, 100, 101, 102, 103, 118, 119, 120] (by decide +kernel) (by decide +kernel)
set_option maxRecDepth 20000 in
theorem gX5_lighter_Jx4a65c_add_9ea2d : GoodIn wsX5_lighter (wsV RX5 48 RJx4a65c yJx4a65c_add_9ea2d wsJx4a65c_add_9ea2d) := goodIn_app (goodIn_of _ (by decide +kernel)) ggX5_lighter_Jx4a65c_add_9ea2d
theorem dX5_lighter_0 : decode cX5_lighter 0 = .ok (.iload_n 1, 1) := by decide +kernel
theorem dX5_lighter_1 : decode cX5_lighter 1 = .ok (.bipush 20, 2) := by decide +kernel
theorem dX5_lighter_3 : decode cX5_lighter 3 = .ok (.sipush 500, 3) := by decide +kernel
theorem dX5_lighter_6 : decode cX5_lighter 6 = .ok (.invokestatic 28, 3) := by decide +kernel
theorem dX5_lighter_9 : decode cX5_lighter 9 = .ok (.aload_n 0, 1) := by decide +kernel
theorem dX5_lighter_10 : decode cX5_lighter 10 = .ok (.getfield 16, 3) := by decide +kernel
theorem dX5_lighter_13 : decode cX5_lighter 13 = .ok (.invokevirtual 32, 3) := by decide +kernel
theorem dX5_lighter_16 : decode cX5_lighter 16 = .ok (.istore_n 2, 1) := by decide +kernel
theorem dX5_lighter_17 : decode cX5_lighter 17 = .ok (.iload_n 2, 1) := by decide +kernel
theorem dX5_lighter_18 : decode cX5_lighter 18 = .ok (.bipush 6, 2) := by decide +kernel
theorem dX5_lighter_20 : decode cX5_lighter 20 = .ok (.if_icmp .lt 13, 3) := by decide +kernel
theorem dX5_lighter_23 : decode cX5_lighter 23 = .ok (.new 36, 3) := by decide +kernel
theorem dX5_lighter_26 : decode cX5_lighter 26 = .ok (.dup, 1) := by decide +kernel
theorem dX5_lighter_27 : decode cX5_lighter 27 = .ok (.ldc 52, 2) := by decide +kernel
theorem dX5_lighter_29 : decode cX5_lighter 29 = .ok (.invokespecial 40, 3) := by decide +kernel
theorem dX5_lighter_32 : decode cX5_lighter 32 = .ok (.athrow, 1) := by decide +kernel
theorem dX5_lighter_33 : decode cX5_lighter 33 = .ok (.aload_n 0, 1) := by decide +kernel
theorem dX5_lighter_34 : decode cX5_lighter 34 = .ok (.getfield 10, 3) := by decide +kernel
theorem dX5_lighter_37 : decode cX5_lighter 37 = .ok (.invokevirtual 54, 3) := by decide +kernel
theorem dX5_lighter_40 : decode cX5_lighter 40 = .ok (.ifCond .eq 13, 3) := by decide +kernel
theorem dX5_lighter_43 : decode cX5_lighter 43 = .ok (.new 36, 3) := by decide +kernel
theorem dX5_lighter_46 : decode cX5_lighter 46 = .ok (.dup, 1) := by decide +kernel
theorem dX5_lighter_47 : decode cX5_lighter 47 = .ok (.ldc 58, 2) := by decide +kernel
theorem dX5_lighter_49 : decode cX5_lighter 49 = .ok (.invokespecial 40, 3) := by decide +kernel
theorem dX5_lighter_52 : decode cX5_lighter 52 = .ok (.athrow, 1) := by decide +kernel
theorem dX5_lighter_53 : decode cX5_lighter 53 = .ok (.aload_n 0, 1) := by decide +kernel
theorem dX5_lighter_54 : decode cX5_lighter 54 = .ok (.getfield 16, 3) := by decide +kernel
theorem dX5_lighter_57 : decode cX5_lighter 57 = .ok (.new 60, 3) := by decide +kernel
theorem dX5_lighter_60 : decode cX5_lighter 60 = .ok (.dup, 1) := by decide +kernel
theorem dX5_lighter_61 : decode cX5_lighter 61 = .ok (.iload_n 1, 1) := by decide +kernel
theorem dX5_lighter_62 : decode cX5_lighter 62 = .ok (.aload_n 0, 1) := by decide +kernel
theorem dX5_lighter_63 : decode cX5_lighter 63 = .ok (.getfield 10, 3) := by decide +kernel
theorem dX5_lighter_66 : decode cX5_lighter 66 = .ok (.iconst 0, 1) := by decide +kernel
theorem dX5_lighter_67 : decode cX5_lighter 67 = .ok (.invokevirtual 62, 3) := by decide +kernel
theorem dX5_lighter_70 : decode cX5_lighter 70 = .ok (.checkcast 43, 3) := by decide +kernel
theorem dX5_lighter_73 : decode cX5_lighter 73 = .ok (.invokespecial 66, 3) := by decide +kernel
theorem dX5_lighter_76 : decode cX5_lighter 76 = .ok (.invokevirtual 48, 3) := by decide +kernel
theorem dX5_lighter_79 : decode cX5_lighter 79 = .ok (.pop, 1) := by decide +kernel
theorem dX5_lighter_80 : decode cX5_lighter 80 = .ok (.iload_n 2, 1) := by decide +kernel
theorem dX5_lighter_81 : decode cX5_lighter 81 = .ok (.ireturn, 1) := by decide +kernel
set_option maxRecDepth 20000 in
theorem ggX5_gang_X5_refuseOutOfRange : GoodIn wsX5_gang wsX5_refuseOutOfRange := goodIn_ca (goodIn_r _ [10, 11, 12] (by decide +kernel) (by decide +kernel)) (goodIn_sub (fun _ h => List.mem_cons_of_mem _ (List.mem_append_right _ h)) (by decide +kernel))
set_option maxRecDepth 20000 in
theorem gX5_gang_X5_refuseOutOfRange : GoodIn wsX5_gang (va_wsS RX5 28 yX5_refuseOutOfRange wsX5_refuseOutOfRange) := goodIn_app (goodIn_of _ (by decide +kernel)) ggX5_gang_X5_refuseOutOfRange
set_option maxRecDepth 20000 in
theorem ggX5_gang_Jx4a65c_size_8abf5 : GoodIn wsX5_gang wsJx4a65c_size_8abf5 := goodIn_r _ [17, 18, 93, 94, 95] (by decide +kernel) (by decide +kernel)
set_option maxRecDepth 20000 in
theorem gX5_gang_Jx4a65c_size_8abf5 : GoodIn wsX5_gang (wsV RX5 32 RJx4a65c yJx4a65c_size_8abf5 wsJx4a65c_size_8abf5) := goodIn_app (goodIn_of _ (by decide +kernel)) ggX5_gang_Jx4a65c_size_8abf5
set_option maxRecDepth 20000 in
theorem ggX5_gang_X0_init : GoodIn wsX5_gang wsX0_init := goodIn_r _ [21, 22, 23, 24, 25, 26, 88, 89, 90, 91, 92] (by decide +kernel) (by decide +kernel)
set_option maxRecDepth 20000 in
theorem gX5_gang_X0_init : GoodIn wsX5_gang (wsX0_init) := ggX5_gang_X0_init
set_option maxRecDepth 20000 in
theorem ggX5_gang_Jx4a65c_add_9ea2d : GoodIn wsX5_gang wsJx4a65c_add_9ea2d := goodIn_r _ [30, 31, 32, 33, 18, 34, 35, 36, 16, 37, 38, 39, 40, 41, 42, 43, 44, 45, 46, 47, 48, 49, 50, 51, 52, 53, 54, 55, 56, 57, 58, 59, 60, 61, 62, 63, 64, 65, 66, 67, 68, 69, 70, 71, 72, 73, 74, 75, 76, 77, 78, 79, 80, 93, 94, 95] (by decide +kernel) (by decide +kernel)
set_option maxRecDepth 20000 in
theorem gX5_gang_Jx4a65c_add_9ea2d : GoodIn wsX5_gang (wsV RX5 48 RJx4a65c yJx4a65c_add_9ea2d wsJx4a65c_add_9ea2d) := goodIn_app (goodIn_of _ (by decide +kernel)) ggX5_gang_Jx4a65c_add_9ea2d
theorem dX5_gang_0 : decode cX5_gang 0 = .ok (.iload_n 1, 1) := by decide +kernel
theorem dX5_gang_1 : decode cX5_gang 1 = .ok (.iconst 1, 1) := by decide +kernel
theorem dX5_gang_2 : decode cX5_gang 2 = .ok (.bipush 20, 2) := by decide +kernel
theorem dX5_gang_4 : decode cX5_gang 4 = .ok (.invokestatic 28, 3) := by decide +kernel
theorem dX5_gang_7 : decode cX5_gang 7 = .ok (.aload_n 0, 1) := by decide +kernel
theorem dX5_gang_8 : decode cX5_gang 8 = .ok (.getfield 19, 3) := by decide +kernel
theorem dX5_gang_11 : decode cX5_gang 11 = .ok (.invokevirtual 32, 3) := by decide +kernel
theorem dX5_gang_14 : decode cX5_gang 14 = .ok (.istore_n 2, 1) := by decide +kernel
theorem dX5_gang_15 : decode cX5_gang 15 = .ok (.iload_n 2, 1) := by decide +kernel
theorem dX5_gang_16 : decode cX5_gang 16 = .ok (.bipush 6, 2) := by decide +kernel
theorem dX5_gang_18 : decode cX5_gang 18 = .ok (.if_icmp .lt 13, 3) := by decide +kernel
theorem dX5_gang_21 : decode cX5_gang 21 = .ok (.new 36, 3) := by decide +kernel
theorem dX5_gang_24 : decode cX5_gang 24 = .ok (.dup, 1) := by decide +kernel
theorem dX5_gang_25 : decode cX5_gang 25 = .ok (.ldc 69, 2) := by decide +kernel
theorem dX5_gang_27 : decode cX5_gang 27 = .ok (.invokespecial 40, 3) := by decide +kernel
theorem dX5_gang_30 : decode cX5_gang 30 = .ok (.athrow, 1) := by decide +kernel
theorem dX5_gang_31 : decode cX5_gang 31 = .ok (.aload_n 0, 1) := by decide +kernel
theorem dX5_gang_32 : decode cX5_gang 32 = .ok (.getfield 19, 3) := by decide +kernel
theorem dX5_gang_35 : decode cX5_gang 35 = .ok (.new 71, 3) := by decide +kernel
theorem dX5_gang_38 : decode cX5_gang 38 = .ok (.dup, 1) := by decide +kernel
theorem dX5_gang_39 : decode cX5_gang 39 = .ok (.iload_n 2, 1) := by decide +kernel
theorem dX5_gang_40 : decode cX5_gang 40 = .ok (.iload_n 1, 1) := by decide +kernel
theorem dX5_gang_41 : decode cX5_gang 41 = .ok (.invokespecial 73, 3) := by decide +kernel
theorem dX5_gang_44 : decode cX5_gang 44 = .ok (.invokevirtual 48, 3) := by decide +kernel
theorem dX5_gang_47 : decode cX5_gang 47 = .ok (.pop, 1) := by decide +kernel
theorem dX5_gang_48 : decode cX5_gang 48 = .ok (.iload_n 2, 1) := by decide +kernel
theorem dX5_gang_49 : decode cX5_gang 49 = .ok (.ireturn, 1) := by decide +kernel
set_option maxRecDepth 20000 in
theorem ggX5_steamer_X5_refuseOutOfRange : GoodIn wsX5_steamer wsX5_refuseOutOfRange := goodIn_ca (goodIn_r _ [11, 12, 13] (by decide +kernel) (by decide +kernel)) (goodIn_sub (fun _ h => List.mem_cons_of_mem _ (List.mem_append_right _ h)) (by decide +kernel))
set_option maxRecDepth 20000 in
theorem gX5_steamer_X5_refuseOutOfRange : GoodIn wsX5_steamer (va_wsS RX5 28 yX5_refuseOutOfRange wsX5_refuseOutOfRange) := goodIn_app (goodIn_of _ (by decide +kernel)) ggX5_steamer_X5_refuseOutOfRange
set_option maxRecDepth 20000 in
theorem ggX5_steamer_Jx4a65c_size_8abf5 : GoodIn wsX5_steamer wsJx4a65c_size_8abf5 := goodIn_r _ [18, 19, 117, 118, 119] (by decide +kernel) (by decide +kernel)
set_option maxRecDepth 20000 in
theorem gX5_steamer_Jx4a65c_size_8abf5 : GoodIn wsX5_steamer (wsV RX5 32 RJx4a65c yJx4a65c_size_8abf5 wsJx4a65c_size_8abf5) := goodIn_app (goodIn_of _ (by decide +kernel)) ggX5_steamer_Jx4a65c_size_8abf5
set_option maxRecDepth 20000 in
theorem ggX5_steamer_X5_countFaring : GoodIn wsX5_steamer wsX5_countFaring := goodIn_r _ [23, 7, 24, 25, 14, 15, 16, 17, 18, 19, 26, 27, 28, 29, 30, 31, 32, 33, 34, 35, 36, 37, 38, 39, 40, 41, 42, 106, 107, 108, 109, 110, 111, 112, 113, 114, 115, 116, 117, 118, 119] (by decide +kernel) (by decide +kernel)
set_option maxRecDepth 20000 in
theorem gX5_steamer_X5_countFaring : GoodIn wsX5_steamer (wsV RX5 76 RX5 yX5_countFaring wsX5_countFaring) := goodIn_app (goodIn_of _ (by decide +kernel)) ggX5_steamer_X5_countFaring
set_option maxRecDepth 20000 in
theorem ggX5_steamer_X4_init : GoodIn wsX5_steamer wsX4_init := goodIn_r _ [45, 46, 47, 48, 49, 50, 51, 52, 113, 114, 115, 116] (by decide +kernel) (by decide +kernel)
set_option maxRecDepth 20000 in
theorem gX5_steamer_X4_init : GoodIn wsX5_steamer (wsX4_init) := ggX5_steamer_X4_init
set_option maxRecDepth 20000 in
theorem ggX5_steamer_Jx4a65c_add_9ea2d : GoodIn wsX5_steamer wsJx4a65c_add_9ea2d := goodIn_r _ [56, 57, 58, 42, 19, 59, 60, 61, 17, 62, 63, 64, 65, 66, 67, 68, 69, 70, 71, 72, 73, 74, 75, 76, 77, 78, 79, 80, 81, 82, 83, 84, 85, 86, 87, 88, 89, 90, 91, 92, 93, 94, 95, 96, 97, 98, 99, 100, 101, 102, 103, 104, 105, 117, 118, 119] (by decide +kernel) (by decide +kernel)
set_option maxRecDepth 20000 in
theorem gX5_steamer_Jx4a65c_add_9ea2d : GoodIn wsX5_steamer (wsV RX5 48 RJx4a65c yJx4a65c_add_9ea2d wsJx4a65c_add_9ea2d) := goodIn_app (goodIn_of _ (by decide +kernel)) ggX5_steamer_Jx4a65c_add_9ea2d
theorem dX5_steamer_0 : decode cX5_steamer 0 = .ok (.iload_n 1, 1) := by decide +kernel
theorem dX5_steamer_1 : decode cX5_steamer 1 = .ok (.iconst 1, 1) := by decide +kernel
theorem dX5_steamer_2 : decode cX5_steamer 2 = .ok (.sipush 9999, 3) := by decide +kernel
theorem dX5_steamer_5 : decode cX5_steamer 5 = .ok (.invokestatic 28, 3) := by decide +kernel
theorem dX5_steamer_8 : decode cX5_steamer 8 = .ok (.iload_n 2, 1) := by decide +kernel
theorem dX5_steamer_9 : decode cX5_steamer 9 = .ok (.iconst 1, 1) := by decide +kernel
theorem dX5_steamer_10 : decode cX5_steamer 10 = .ok (.sipush 500, 3) := by decide +kernel
theorem dX5_steamer_13 : decode cX5_steamer 13 = .ok (.invokestatic 28, 3) := by decide +kernel
theorem dX5_steamer_16 : decode cX5_steamer 16 = .ok (.aload_n 0, 1) := by decide +kernel
theorem dX5_steamer_17 : decode cX5_steamer 17 = .ok (.getfield 22, 3) := by decide +kernel
theorem dX5_steamer_20 : decode cX5_steamer 20 = .ok (.invokevirtual 32, 3) := by decide +kernel
theorem dX5_steamer_23 : decode cX5_steamer 23 = .ok (.istore_n 3, 1) := by decide +kernel
theorem dX5_steamer_24 : decode cX5_steamer 24 = .ok (.aload_n 0, 1) := by decide +kernel
theorem dX5_steamer_25 : decode cX5_steamer 25 = .ok (.iconst 0, 1) := by decide +kernel
theorem dX5_steamer_26 : decode cX5_steamer 26 = .ok (.invokevirtual 76, 3) := by decide +kernel
theorem dX5_steamer_29 : decode cX5_steamer 29 = .ok (.bipush 8, 2) := by decide +kernel
theorem dX5_steamer_31 : decode cX5_steamer 31 = .ok (.if_icmp .ge 10, 3) := by decide +kernel
theorem dX5_steamer_34 : decode cX5_steamer 34 = .ok (.iload_n 3, 1) := by decide +kernel
theorem dX5_steamer_35 : decode cX5_steamer 35 = .ok (.sipush 512, 3) := by decide +kernel
theorem dX5_steamer_38 : decode cX5_steamer 38 = .ok (.if_icmp .lt 13, 3) := by decide +kernel
theorem dX5_steamer_41 : decode cX5_steamer 41 = .ok (.new 36, 3) := by decide +kernel
theorem dX5_steamer_44 : decode cX5_steamer 44 = .ok (.dup, 1) := by decide +kernel
theorem dX5_steamer_45 : decode cX5_steamer 45 = .ok (.ldc 80, 2) := by decide +kernel
theorem dX5_steamer_47 : decode cX5_steamer 47 = .ok (.invokespecial 40, 3) := by decide +kernel
theorem dX5_steamer_50 : decode cX5_steamer 50 = .ok (.athrow, 1) := by decide +kernel
theorem dX5_steamer_51 : decode cX5_steamer 51 = .ok (.new 82, 3) := by decide +kernel
theorem dX5_steamer_54 : decode cX5_steamer 54 = .ok (.dup, 1) := by decide +kernel
theorem dX5_steamer_55 : decode cX5_steamer 55 = .ok (.iload_n 3, 1) := by decide +kernel
theorem dX5_steamer_56 : decode cX5_steamer 56 = .ok (.iload_n 1, 1) := by decide +kernel
theorem dX5_steamer_57 : decode cX5_steamer 57 = .ok (.iload_n 2, 1) := by decide +kernel
theorem dX5_steamer_58 : decode cX5_steamer 58 = .ok (.invokespecial 84, 3) := by decide +kernel
theorem dX5_steamer_61 : decode cX5_steamer 61 = .ok (.astore 4, 2) := by decide +kernel
theorem dX5_steamer_63 : decode cX5_steamer 63 = .ok (.aload_n 0, 1) := by decide +kernel
theorem dX5_steamer_64 : decode cX5_steamer 64 = .ok (.getfield 22, 3) := by decide +kernel
theorem dX5_steamer_67 : decode cX5_steamer 67 = .ok (.aload 4, 2) := by decide +kernel
theorem dX5_steamer_69 : decode cX5_steamer 69 = .ok (.invokevirtual 48, 3) := by decide +kernel
theorem dX5_steamer_72 : decode cX5_steamer 72 = .ok (.pop, 1) := by decide +kernel
theorem dX5_steamer_73 : decode cX5_steamer 73 = .ok (.aload_n 0, 1) := by decide +kernel
theorem dX5_steamer_74 : decode cX5_steamer 74 = .ok (.getfield 25, 3) := by decide +kernel
theorem dX5_steamer_77 : decode cX5_steamer 77 = .ok (.aload 4, 2) := by decide +kernel
theorem dX5_steamer_79 : decode cX5_steamer 79 = .ok (.invokevirtual 48, 3) := by decide +kernel
theorem dX5_steamer_82 : decode cX5_steamer 82 = .ok (.pop, 1) := by decide +kernel
theorem dX5_steamer_83 : decode cX5_steamer 83 = .ok (.iload_n 3, 1) := by decide +kernel
theorem dX5_steamer_84 : decode cX5_steamer 84 = .ok (.ireturn, 1) := by decide +kernel
set_option maxRecDepth 20000 in
theorem ggX5_order_X5_findLighter : GoodIn wsX5_order wsX5_findLighter := goodIn_ca (goodIn_r _ [12, 13, 14, 15, 16, 17, 18, 19, 20, 21, 22, 23, 24, 25, 26, 27, 28, 29, 30, 31, 32, 33, 34, 35, 36, 37, 38, 39, 93, 94, 95, 96, 97, 98, 99, 100, 101, 102] (by decide +kernel) (by decide +kernel)) (goodIn_sub (fun _ h => List.mem_cons_of_mem _ (List.mem_append_right _ h)) (by decide +kernel))
set_option maxRecDepth 20000 in
theorem gX5_order_X5_findLighter : GoodIn wsX5_order (wsV RX5 86 RX5 yX5_findLighter wsX5_findLighter) := goodIn_app (goodIn_of _ (by decide +kernel)) ggX5_order_X5_findLighter
set_option maxRecDepth 20000 in
theorem ggX5_order_X5_findGang : GoodIn wsX5_order wsX5_findGang := goodIn_ca (goodIn_r _ [43, 13, 14, 44, 45, 17, 18, 19, 20, 21, 22, 23, 24, 25, 26, 27, 28, 29, 30, 31, 32, 33, 34, 35, 36, 37, 38, 39, 93, 94, 95, 96, 97, 98, 99, 100, 101, 102] (by decide +kernel) (by decide +kernel)) (goodIn_sub (fun _ h => List.mem_cons_of_mem _ (List.mem_append_right _ h)) (by decide +kernel))
set_option maxRecDepth 20000 in
theorem gX5_order_X5_findGang : GoodIn wsX5_order (wsV RX5 90 RX5 yX5_findGang wsX5_findGang) := goodIn_app (goodIn_of _ (by decide +kernel)) ggX5_order_X5_findGang
set_option maxRecDepth 20000 in
theorem ggX5_order_X5_findSteamer : GoodIn wsX5_order wsX5_findSteamer := goodIn_ca (goodIn_r _ [49, 13, 14, 50, 51, 17, 18, 19, 20, 21, 22, 23, 24, 25, 26, 27, 28, 29, 30, 31, 32, 33, 34, 35, 36, 37, 38, 39, 93, 94, 95, 96, 97, 98, 99, 100, 101, 102] (by decide +kernel) (by decide +kernel)) (goodIn_sub (fun _ h => List.mem_cons_of_mem _ (List.mem_append_right _ h)) (by decide +kernel))
set_option maxRecDepth 20000 in
theorem gX5_order_X5_findSteamer : GoodIn wsX5_order (wsV RX5 94 RX5 yX5_findSteamer wsX5_findSteamer) := goodIn_app (goodIn_of _ (by decide +kernel)) ggX5_order_X5_findSteamer
set_option maxRecDepth 20000 in
theorem ggX5_order_X5_refuseOrdered : GoodIn wsX5_order wsX5_refuseOrdered := goodIn_ca (goodIn_r _ [54, 1, 2, 6, 81, 82, 83, 84, 85, 86, 87] (by decide +kernel) (by decide +kernel)) (goodIn_sub (fun _ h => List.mem_cons_of_mem _ (List.mem_append_left _ (List.mem_append_right _ h))) (by decide +kernel))
set_option maxRecDepth 20000 in
theorem gX5_order_X5_refuseOrdered : GoodIn wsX5_order (va_wsS RX5 98 yX5_refuseOrdered wsX5_refuseOrdered) := goodIn_app (goodIn_of _ (by decide +kernel)) ggX5_order_X5_refuseOrdered
set_option maxRecDepth 20000 in
theorem ggX5_order_X5_refuseBusy : GoodIn wsX5_order wsX5_refuseBusy := goodIn_ca (goodIn_r _ [57, 1, 2, 58, 59, 60, 61, 62, 63, 64, 88, 89, 90, 91, 92] (by decide +kernel) (by decide +kernel)) (goodIn_sub (fun _ h => List.mem_cons_of_mem _ (List.mem_append_left _ (List.mem_append_right _ h))) (by decide +kernel))
set_option maxRecDepth 20000 in
theorem gX5_order_X5_refuseBusy : GoodIn wsX5_order (va_wsS RX5 102 yX5_refuseBusy wsX5_refuseBusy) := goodIn_app (goodIn_of _ (by decide +kernel)) ggX5_order_X5_refuseBusy
set_option maxRecDepth 20000 in
theorem ggX5_order_X4_hasLeft : GoodIn wsX5_order wsX4_hasLeft := goodIn_r _ [69, 70, 103, 104, 105, 106] (by decide +kernel) (by decide +kernel)
set_option maxRecDepth 20000 in
theorem gX5_order_X4_hasLeft : GoodIn wsX5_order (wsV RX5 106 RX4 yX4_hasLeft wsX4_hasLeft) := goodIn_app (goodIn_of _ (by decide +kernel)) ggX5_order_X4_hasLeft
set_option maxRecDepth 20000 in
theorem ggX5_order_X3_init : GoodIn wsX5_order wsX3_init := goodIn_r _ [73, 74, 75, 76, 77, 78, 79, 80] (by decide +kernel) (by decide +kernel)
set_option maxRecDepth 20000 in
theorem gX5_order_X3_init : GoodIn wsX5_order (wsX3_init) := ggX5_order_X3_init
theorem dX5_order_0 : decode cX5_order 0 = .ok (.aload_n 0, 1) := by decide +kernel
theorem dX5_order_1 : decode cX5_order 1 = .ok (.iload_n 1, 1) := by decide +kernel
theorem dX5_order_2 : decode cX5_order 2 = .ok (.invokevirtual 86, 3) := by decide +kernel
theorem dX5_order_5 : decode cX5_order 5 = .ok (.astore 4, 2) := by decide +kernel
theorem dX5_order_7 : decode cX5_order 7 = .ok (.aload_n 0, 1) := by decide +kernel
theorem dX5_order_8 : decode cX5_order 8 = .ok (.iload_n 2, 1) := by decide +kernel
theorem dX5_order_9 : decode cX5_order 9 = .ok (.invokevirtual 90, 3) := by decide +kernel
theorem dX5_order_12 : decode cX5_order 12 = .ok (.astore 5, 2) := by decide +kernel
theorem dX5_order_14 : decode cX5_order 14 = .ok (.aload_n 0, 1) := by decide +kernel
theorem dX5_order_15 : decode cX5_order 15 = .ok (.iload_n 3, 1) := by decide +kernel
theorem dX5_order_16 : decode cX5_order 16 = .ok (.invokevirtual 94, 3) := by decide +kernel
theorem dX5_order_19 : decode cX5_order 19 = .ok (.astore 6, 2) := by decide +kernel
theorem dX5_order_21 : decode cX5_order 21 = .ok (.aload 4, 2) := by decide +kernel
theorem dX5_order_23 : decode cX5_order 23 = .ok (.invokestatic 98, 3) := by decide +kernel
theorem dX5_order_26 : decode cX5_order 26 = .ok (.aload 5, 2) := by decide +kernel
theorem dX5_order_28 : decode cX5_order 28 = .ok (.invokestatic 102, 3) := by decide +kernel
theorem dX5_order_31 : decode cX5_order 31 = .ok (.aload 6, 2) := by decide +kernel
theorem dX5_order_33 : decode cX5_order 33 = .ok (.invokevirtual 106, 3) := by decide +kernel
theorem dX5_order_36 : decode cX5_order 36 = .ok (.ifCond .eq 13, 3) := by decide +kernel
theorem dX5_order_39 : decode cX5_order 39 = .ok (.new 36, 3) := by decide +kernel
theorem dX5_order_42 : decode cX5_order 42 = .ok (.dup, 1) := by decide +kernel
theorem dX5_order_43 : decode cX5_order 43 = .ok (.ldc 109, 2) := by decide +kernel
theorem dX5_order_45 : decode cX5_order 45 = .ok (.invokespecial 40, 3) := by decide +kernel
theorem dX5_order_48 : decode cX5_order 48 = .ok (.athrow, 1) := by decide +kernel
theorem dX5_order_49 : decode cX5_order 49 = .ok (.aload 4, 2) := by decide +kernel
theorem dX5_order_51 : decode cX5_order 51 = .ok (.new 111, 3) := by decide +kernel
theorem dX5_order_54 : decode cX5_order 54 = .ok (.dup, 1) := by decide +kernel
theorem dX5_order_55 : decode cX5_order 55 = .ok (.aload 5, 2) := by decide +kernel
theorem dX5_order_57 : decode cX5_order 57 = .ok (.aload 6, 2) := by decide +kernel
theorem dX5_order_59 : decode cX5_order 59 = .ok (.invokespecial 113, 3) := by decide +kernel
theorem dX5_order_62 : decode cX5_order 62 = .ok (.putfield 116, 3) := by decide +kernel
theorem dX5_order_65 : decode cX5_order 65 = .ok (.aload 5, 2) := by decide +kernel
theorem dX5_order_67 : decode cX5_order 67 = .ok (.iconst 1, 1) := by decide +kernel
theorem dX5_order_68 : decode cX5_order 68 = .ok (.putfield 120, 3) := by decide +kernel
theorem dX5_order_71 : decode cX5_order 71 = .ok (.return_, 1) := by decide +kernel
set_option maxRecDepth 20000 in
theorem ggX5_shift_X5_findLighter : GoodIn wsX5_shift wsX5_findLighter := goodIn_ca (goodIn_r _ [6, 7, 8, 9, 10, 11, 12, 13, 14, 15, 16, 17, 18, 19, 20, 21, 22, 23, 24, 25, 26, 27, 28, 29, 30, 31, 32, 33, 53, 54, 55, 56, 57, 58, 59, 60, 61, 62] (by decide +kernel) (by decide +kernel)) (goodIn_sub (fun _ h => List.mem_cons_of_mem _ (List.mem_append_left _ (List.mem_append_right _ h))) (by decide +kernel))
set_option maxRecDepth 20000 in
theorem gX5_shift_X5_findLighter : GoodIn wsX5_shift (wsV RX5 86 RX5 yX5_findLighter wsX5_findLighter) := goodIn_app (goodIn_of _ (by decide +kernel)) ggX5_shift_X5_findLighter
set_option maxRecDepth 20000 in
theorem ggX5_shift_X5_findHulk : GoodIn wsX5_shift wsX5_findHulk := goodIn_ca (goodIn_r _ [37, 7, 8, 38, 39, 11, 12, 13, 14, 15, 16, 17, 18, 19, 20, 21, 22, 23, 24, 25, 26, 27, 28, 29, 30, 31, 32, 33, 53, 54, 55, 56, 57, 58, 59, 60, 61, 62] (by decide +kernel) (by decide +kernel)) (goodIn_sub (fun _ h => List.mem_cons_of_mem _ (List.mem_append_left _ (List.mem_append_right _ h))) (by decide +kernel))
set_option maxRecDepth 20000 in
theorem gX5_shift_X5_findHulk : GoodIn wsX5_shift (wsV RX5 124 RX5 yX5_findHulk wsX5_findHulk) := goodIn_app (goodIn_of _ (by decide +kernel)) ggX5_shift_X5_findHulk
set_option maxRecDepth 20000 in
theorem ggX5_shift_X5_refuseOrdered : GoodIn wsX5_shift wsX5_refuseOrdered := goodIn_ca (goodIn_r _ [42, 43, 44, 45, 46, 47, 48, 49, 50, 51, 52] (by decide +kernel) (by decide +kernel)) (goodIn_sub (fun _ h => List.mem_cons_of_mem _ (List.mem_append_right _ h)) (by decide +kernel))
set_option maxRecDepth 20000 in
theorem gX5_shift_X5_refuseOrdered : GoodIn wsX5_shift (va_wsS RX5 98 yX5_refuseOrdered wsX5_refuseOrdered) := goodIn_app (goodIn_of _ (by decide +kernel)) ggX5_shift_X5_refuseOrdered
theorem dX5_shift_0 : decode cX5_shift 0 = .ok (.aload_n 0, 1) := by decide +kernel
theorem dX5_shift_1 : decode cX5_shift 1 = .ok (.iload_n 1, 1) := by decide +kernel
theorem dX5_shift_2 : decode cX5_shift 2 = .ok (.invokevirtual 86, 3) := by decide +kernel
theorem dX5_shift_5 : decode cX5_shift 5 = .ok (.astore_n 3, 1) := by decide +kernel
theorem dX5_shift_6 : decode cX5_shift 6 = .ok (.aload_n 0, 1) := by decide +kernel
theorem dX5_shift_7 : decode cX5_shift 7 = .ok (.iload_n 2, 1) := by decide +kernel
theorem dX5_shift_8 : decode cX5_shift 8 = .ok (.invokevirtual 124, 3) := by decide +kernel
theorem dX5_shift_11 : decode cX5_shift 11 = .ok (.astore 4, 2) := by decide +kernel
theorem dX5_shift_13 : decode cX5_shift 13 = .ok (.aload_n 3, 1) := by decide +kernel
theorem dX5_shift_14 : decode cX5_shift 14 = .ok (.invokestatic 98, 3) := by decide +kernel
theorem dX5_shift_17 : decode cX5_shift 17 = .ok (.aload_n 3, 1) := by decide +kernel
theorem dX5_shift_18 : decode cX5_shift 18 = .ok (.aload 4, 2) := by decide +kernel
theorem dX5_shift_20 : decode cX5_shift 20 = .ok (.putfield 128, 3) := by decide +kernel
theorem dX5_shift_23 : decode cX5_shift 23 = .ok (.return_, 1) := by decide +kernel
set_option maxRecDepth 20000 in
theorem ggX5_sweep_X5_findLighter : GoodIn wsX5_sweep wsX5_findLighter := goodIn_ca (goodIn_r _ [8, 9, 10, 11, 12, 13, 14, 15, 16, 17, 18, 19, 20, 21, 22, 23, 24, 25, 26, 27, 28, 29, 30, 31, 32, 33, 34, 35, 71, 72, 73, 74, 75, 76, 77, 78, 79, 80] (by decide +kernel) (by decide +kernel)) (goodIn_sub (fun _ h => List.mem_cons_of_mem _ (List.mem_append_left _ (List.mem_append_right _ h))) (by decide +kernel))
set_option maxRecDepth 20000 in
theorem gX5_sweep_X5_findLighter : GoodIn wsX5_sweep (wsV RX5 86 RX5 yX5_findLighter wsX5_findLighter) := goodIn_app (goodIn_of _ (by decide +kernel)) ggX5_sweep_X5_findLighter
set_option maxRecDepth 20000 in
theorem ggX5_sweep_X5_findGang : GoodIn wsX5_sweep wsX5_findGang := goodIn_ca (goodIn_r _ [39, 9, 10, 40, 41, 13, 14, 15, 16, 17, 18, 19, 20, 21, 22, 23, 24, 25, 26, 27, 28, 29, 30, 31, 32, 33, 34, 35, 71, 72, 73, 74, 75, 76, 77, 78, 79, 80] (by decide +kernel) (by decide +kernel)) (goodIn_sub (fun _ h => List.mem_cons_of_mem _ (List.mem_append_left _ (List.mem_append_right _ h))) (by decide +kernel))
set_option maxRecDepth 20000 in
theorem gX5_sweep_X5_findGang : GoodIn wsX5_sweep (wsV RX5 90 RX5 yX5_findGang wsX5_findGang) := goodIn_app (goodIn_of _ (by decide +kernel)) ggX5_sweep_X5_findGang
set_option maxRecDepth 20000 in
theorem ggX5_sweep_X5_refuseOrdered : GoodIn wsX5_sweep wsX5_refuseOrdered := goodIn_ca (goodIn_r _ [44, 45, 46, 47, 63, 64, 65, 66, 67, 68, 69] (by decide +kernel) (by decide +kernel)) (goodIn_sub (fun _ h => List.mem_cons_of_mem _ (List.mem_append_right _ h)) (by decide +kernel))
set_option maxRecDepth 20000 in
theorem gX5_sweep_X5_refuseOrdered : GoodIn wsX5_sweep (va_wsS RX5 98 yX5_refuseOrdered wsX5_refuseOrdered) := goodIn_app (goodIn_of _ (by decide +kernel)) ggX5_sweep_X5_refuseOrdered
set_option maxRecDepth 20000 in
theorem ggX5_sweep_X5_refuseBusy : GoodIn wsX5_sweep wsX5_refuseBusy := goodIn_ca (goodIn_r _ [50, 45, 46, 51, 52, 53, 54, 55, 56, 57, 81, 82, 83, 84, 85] (by decide +kernel) (by decide +kernel)) (goodIn_sub (fun _ h => List.mem_cons_of_mem _ (List.mem_append_right _ h)) (by decide +kernel))
set_option maxRecDepth 20000 in
theorem gX5_sweep_X5_refuseBusy : GoodIn wsX5_sweep (va_wsS RX5 102 yX5_refuseBusy wsX5_refuseBusy) := goodIn_app (goodIn_of _ (by decide +kernel)) ggX5_sweep_X5_refuseBusy
set_option maxRecDepth 20000 in
theorem ggX5_sweep_X0_lieDown : GoodIn wsX5_sweep wsX0_lieDown := goodIn_r _ [61, 57, 62, 81, 82, 83, 84, 85] (by decide +kernel) (by decide +kernel)
set_option maxRecDepth 20000 in
theorem gX5_sweep_X0_lieDown : GoodIn wsX5_sweep (wsV RX5 139 RX0 yX0_lieDown wsX0_lieDown) := goodIn_app (goodIn_of _ (by decide +kernel)) ggX5_sweep_X0_lieDown
theorem dX5_sweep_0 : decode cX5_sweep 0 = .ok (.aload_n 0, 1) := by decide +kernel
theorem dX5_sweep_1 : decode cX5_sweep 1 = .ok (.iload_n 1, 1) := by decide +kernel
theorem dX5_sweep_2 : decode cX5_sweep 2 = .ok (.invokevirtual 86, 3) := by decide +kernel
theorem dX5_sweep_5 : decode cX5_sweep 5 = .ok (.astore_n 3, 1) := by decide +kernel
theorem dX5_sweep_6 : decode cX5_sweep 6 = .ok (.aload_n 0, 1) := by decide +kernel
theorem dX5_sweep_7 : decode cX5_sweep 7 = .ok (.iload_n 2, 1) := by decide +kernel
theorem dX5_sweep_8 : decode cX5_sweep 8 = .ok (.invokevirtual 90, 3) := by decide +kernel
theorem dX5_sweep_11 : decode cX5_sweep 11 = .ok (.astore 4, 2) := by decide +kernel
theorem dX5_sweep_13 : decode cX5_sweep 13 = .ok (.aload_n 3, 1) := by decide +kernel
theorem dX5_sweep_14 : decode cX5_sweep 14 = .ok (.invokestatic 98, 3) := by decide +kernel
theorem dX5_sweep_17 : decode cX5_sweep 17 = .ok (.aload 4, 2) := by decide +kernel
theorem dX5_sweep_19 : decode cX5_sweep 19 = .ok (.invokestatic 102, 3) := by decide +kernel
theorem dX5_sweep_22 : decode cX5_sweep 22 = .ok (.aload_n 3, 1) := by decide +kernel
theorem dX5_sweep_23 : decode cX5_sweep 23 = .ok (.getfield 132, 3) := by decide +kernel
theorem dX5_sweep_26 : decode cX5_sweep 26 = .ok (.istore 5, 2) := by decide +kernel
theorem dX5_sweep_28 : decode cX5_sweep 28 = .ok (.aload_n 3, 1) := by decide +kernel
theorem dX5_sweep_29 : decode cX5_sweep 29 = .ok (.iconst 0, 1) := by decide +kernel
theorem dX5_sweep_30 : decode cX5_sweep 30 = .ok (.putfield 132, 3) := by decide +kernel
theorem dX5_sweep_33 : decode cX5_sweep 33 = .ok (.aload_n 3, 1) := by decide +kernel
theorem dX5_sweep_34 : decode cX5_sweep 34 = .ok (.getfield 128, 3) := by decide +kernel
theorem dX5_sweep_37 : decode cX5_sweep 37 = .ok (.dup, 1) := by decide +kernel
theorem dX5_sweep_38 : decode cX5_sweep 38 = .ok (.getfield 136, 3) := by decide +kernel
theorem dX5_sweep_41 : decode cX5_sweep 41 = .ok (.iload 5, 2) := by decide +kernel
theorem dX5_sweep_43 : decode cX5_sweep 43 = .ok (.iadd, 1) := by decide +kernel
theorem dX5_sweep_44 : decode cX5_sweep 44 = .ok (.putfield 136, 3) := by decide +kernel
theorem dX5_sweep_47 : decode cX5_sweep 47 = .ok (.aload 4, 2) := by decide +kernel
theorem dX5_sweep_49 : decode cX5_sweep 49 = .ok (.invokevirtual 139, 3) := by decide +kernel
theorem dX5_sweep_52 : decode cX5_sweep 52 = .ok (.iload 5, 2) := by decide +kernel
theorem dX5_sweep_54 : decode cX5_sweep 54 = .ok (.ireturn, 1) := by decide +kernel
set_option maxRecDepth 20000 in
theorem ggX5_hours_X5_refuseOutOfRange : GoodIn wsX5_hours wsX5_refuseOutOfRange := goodIn_ca (goodIn_r _ [4, 5, 6] (by decide +kernel) (by decide +kernel)) (goodIn_sub (fun _ h => List.mem_cons_of_mem _ (List.mem_append_right _ h)) (by decide +kernel))
set_option maxRecDepth 20000 in
theorem gX5_hours_X5_refuseOutOfRange : GoodIn wsX5_hours (va_wsS RX5 28 yX5_refuseOutOfRange wsX5_refuseOutOfRange) := goodIn_app (goodIn_of _ (by decide +kernel)) ggX5_hours_X5_refuseOutOfRange
set_option maxRecDepth 20000 in
theorem ggX5_hours_X5_passAnHour : GoodIn wsX5_hours wsX5_passAnHour := goodIn_r _ [10, 11, 12, 13, 14, 3, 15, 16, 17, 18, 19, 20, 21, 22, 23, 24, 25, 26, 27, 28, 29, 30, 31, 32, 33, 34, 35, 36, 37, 38, 39, 40, 41, 42, 43, 44, 45, 46, 47, 48, 49, 50, 51, 52, 53, 54, 55, 56, 57, 58, 59, 60, 61, 62, 63, 64, 65, 66, 67, 68, 69, 70, 71, 72, 73, 74, 75, 76, 77, 78, 79, 80, 81, 82, 83, 84, 85, 86, 87, 88, 89, 90, 91, 92, 93, 94, 95, 96, 97, 98, 99, 100, 101, 102, 103, 104, 105, 106, 107, 108, 109, 110, 111, 112, 113, 114, 115, 116, 117, 118, 119, 120, 121, 122, 123, 124, 125, 126, 127, 128, 129, 130, 131, 132, 133, 134, 135, 136, 137, 138, 139, 140, 141, 142, 143, 144, 145, 146, 147, 148, 149, 150, 151, 152, 153, 154, 155, 156, 157, 158, 159, 160, 161, 162, 163, 164, 165, 166, 167, 168, 169, 170, 171, 172, 173, 174, 175, 176, 177, 178, 179, 180] (by decide +kernel) (by decide +kernel)
set_option maxRecDepth 20000 in
theorem gX5_hours_X5_passAnHour : GoodIn wsX5_hours (wsV RX5 142 RX5 yX5_passAnHour wsX5_passAnHour) := goodIn_app (goodIn_of _ (by decide +kernel)) ggX5_hours_X5_passAnHour
theorem dX5_hours_0 : decode cX5_hours 0 = .ok (.iload_n 1, 1) := by decide +kernel
theorem dX5_hours_1 : decode cX5_hours 1 = .ok (.iconst 1, 1) := by decide +kernel
theorem dX5_hours_2 : decode cX5_hours 2 = .ok (.sipush 500, 3) := by decide +kernel
theorem dX5_hours_5 : decode cX5_hours 5 = .ok (.invokestatic 28, 3) := by decide +kernel
theorem dX5_hours_8 : decode cX5_hours 8 = .ok (.iconst 0, 1) := by decide +kernel
theorem dX5_hours_9 : decode cX5_hours 9 = .ok (.istore_n 2, 1) := by decide +kernel
theorem dX5_hours_10 : decode cX5_hours 10 = .ok (.iconst 0, 1) := by decide +kernel
theorem dX5_hours_11 : decode cX5_hours 11 = .ok (.istore_n 3, 1) := by decide +kernel
theorem dX5_hours_12 : decode cX5_hours 12 = .ok (.iload_n 3, 1) := by decide +kernel
theorem dX5_hours_13 : decode cX5_hours 13 = .ok (.iload_n 1, 1) := by decide +kernel
theorem dX5_hours_14 : decode cX5_hours 14 = .ok (.if_icmp .ge 16, 3) := by decide +kernel
theorem dX5_hours_17 : decode cX5_hours 17 = .ok (.iload_n 2, 1) := by decide +kernel
theorem dX5_hours_18 : decode cX5_hours 18 = .ok (.aload_n 0, 1) := by decide +kernel
theorem dX5_hours_19 : decode cX5_hours 19 = .ok (.invokevirtual 142, 3) := by decide +kernel
theorem dX5_hours_22 : decode cX5_hours 22 = .ok (.iadd, 1) := by decide +kernel
theorem dX5_hours_23 : decode cX5_hours 23 = .ok (.istore_n 2, 1) := by decide +kernel
theorem dX5_hours_24 : decode cX5_hours 24 = .ok (.iinc 3 1, 3) := by decide +kernel
theorem dX5_hours_27 : decode cX5_hours 27 = .ok (.goto (-15), 3) := by decide +kernel
theorem dX5_hours_30 : decode cX5_hours 30 = .ok (.iload_n 2, 1) := by decide +kernel
theorem dX5_hours_31 : decode cX5_hours 31 = .ok (.ireturn, 1) := by decide +kernel
theorem dX5_clock_0 : decode cX5_clock 0 = .ok (.aload_n 0, 1) := by decide +kernel
theorem dX5_clock_1 : decode cX5_clock 1 = .ok (.getfield 145, 3) := by decide +kernel
theorem dX5_clock_4 : decode cX5_clock 4 = .ok (.ireturn, 1) := by decide +kernel
set_option maxRecDepth 20000 in
theorem ggX5_coalIn_X5_findHulk : GoodIn wsX5_coalIn wsX5_findHulk := goodIn_ca (goodIn_r _ [6, 7, 8, 9, 10, 11, 12, 13, 14, 15, 16, 17, 18, 19, 20, 21, 22, 23, 24, 25, 26, 27, 28, 29, 30, 31, 32, 33, 35, 36, 37, 38, 39, 40, 41, 42, 43, 44] (by decide +kernel) (by decide +kernel)) (goodIn_sub (fun _ h => List.mem_cons_of_mem _ (List.mem_append_right _ h)) (by decide +kernel))
set_option maxRecDepth 20000 in
theorem gX5_coalIn_X5_findHulk : GoodIn wsX5_coalIn (wsV RX5 124 RX5 yX5_findHulk wsX5_findHulk) := goodIn_app (goodIn_of _ (by decide +kernel)) ggX5_coalIn_X5_findHulk
theorem dX5_coalIn_0 : decode cX5_coalIn 0 = .ok (.aload_n 0, 1) := by decide +kernel
theorem dX5_coalIn_1 : decode cX5_coalIn 1 = .ok (.iload_n 1, 1) := by decide +kernel
theorem dX5_coalIn_2 : decode cX5_coalIn 2 = .ok (.invokevirtual 124, 3) := by decide +kernel
theorem dX5_coalIn_5 : decode cX5_coalIn 5 = .ok (.getfield 136, 3) := by decide +kernel
theorem dX5_coalIn_8 : decode cX5_coalIn 8 = .ok (.ireturn, 1) := by decide +kernel
set_option maxRecDepth 20000 in
theorem ggX5_placeOf_X5_findLighter : GoodIn wsX5_placeOf wsX5_findLighter := goodIn_ca (goodIn_r _ [6, 7, 8, 9, 10, 11, 12, 13, 14, 15, 16, 17, 18, 19, 20, 21, 22, 23, 24, 25, 26, 27, 28, 29, 30, 31, 32, 33, 41, 42, 43, 44, 45, 46, 47, 48, 49, 50] (by decide +kernel) (by decide +kernel)) (goodIn_sub (fun _ h => List.mem_cons_of_mem _ (List.mem_append_right _ h)) (by decide +kernel))
set_option maxRecDepth 20000 in
theorem gX5_placeOf_X5_findLighter : GoodIn wsX5_placeOf (wsV RX5 86 RX5 yX5_findLighter wsX5_findLighter) := goodIn_app (goodIn_of _ (by decide +kernel)) ggX5_placeOf_X5_findLighter
theorem dX5_placeOf_0 : decode cX5_placeOf 0 = .ok (.aload_n 0, 1) := by decide +kernel
theorem dX5_placeOf_1 : decode cX5_placeOf 1 = .ok (.iload_n 1, 1) := by decide +kernel
theorem dX5_placeOf_2 : decode cX5_placeOf 2 = .ok (.invokevirtual 86, 3) := by decide +kernel
theorem dX5_placeOf_5 : decode cX5_placeOf 5 = .ok (.getfield 148, 3) := by decide +kernel
theorem dX5_placeOf_8 : decode cX5_placeOf 8 = .ok (.ireturn, 1) := by decide +kernel
set_option maxRecDepth 20000 in
theorem ggX5_loadOf_X5_findLighter : GoodIn wsX5_loadOf wsX5_findLighter := goodIn_ca (goodIn_r _ [6, 7, 8, 9, 10, 11, 12, 13, 14, 15, 16, 17, 18, 19, 20, 21, 22, 23, 24, 25, 26, 27, 28, 29, 30, 31, 32, 33, 41, 42, 43, 44, 45, 46, 47, 48, 49, 50] (by decide +kernel) (by decide +kernel)) (goodIn_sub (fun _ h => List.mem_cons_of_mem _ (List.mem_append_right _ h)) (by decide +kernel))
set_option maxRecDepth 20000 in
theorem gX5_loadOf_X5_findLighter : GoodIn wsX5_loadOf (wsV RX5 86 RX5 yX5_findLighter wsX5_findLighter) := goodIn_app (goodIn_of _ (by decide +kernel)) ggX5_loadOf_X5_findLighter
theorem dX5_loadOf_0 : decode cX5_loadOf 0 = .ok (.aload_n 0, 1) := by decide +kernel
theorem dX5_loadOf_1 : decode cX5_loadOf 1 = .ok (.iload_n 1, 1) := by decide +kernel
theorem dX5_loadOf_2 : decode cX5_loadOf 2 = .ok (.invokevirtual 86, 3) := by decide +kernel
theorem dX5_loadOf_5 : decode cX5_loadOf 5 = .ok (.getfield 151, 3) := by decide +kernel
theorem dX5_loadOf_8 : decode cX5_loadOf 8 = .ok (.ireturn, 1) := by decide +kernel
set_option maxRecDepth 20000 in
theorem ggX5_dustIn_X5_findLighter : GoodIn wsX5_dustIn wsX5_findLighter := goodIn_ca (goodIn_r _ [6, 7, 8, 9, 10, 11, 12, 13, 14, 15, 16, 17, 18, 19, 20, 21, 22, 23, 24, 25, 26, 27, 28, 29, 30, 31, 32, 33, 41, 42, 43, 44, 45, 46, 47, 48, 49, 50] (by decide +kernel) (by decide +kernel)) (goodIn_sub (fun _ h => List.mem_cons_of_mem _ (List.mem_append_right _ h)) (by decide +kernel))
set_option maxRecDepth 20000 in
theorem gX5_dustIn_X5_findLighter : GoodIn wsX5_dustIn (wsV RX5 86 RX5 yX5_findLighter wsX5_findLighter) := goodIn_app (goodIn_of _ (by decide +kernel)) ggX5_dustIn_X5_findLighter
theorem dX5_dustIn_0 : decode cX5_dustIn 0 = .ok (.aload_n 0, 1) := by decide +kernel
theorem dX5_dustIn_1 : decode cX5_dustIn 1 = .ok (.iload_n 1, 1) := by decide +kernel
theorem dX5_dustIn_2 : decode cX5_dustIn 2 = .ok (.invokevirtual 86, 3) := by decide +kernel
theorem dX5_dustIn_5 : decode cX5_dustIn 5 = .ok (.getfield 132, 3) := by decide +kernel
theorem dX5_dustIn_8 : decode cX5_dustIn 8 = .ok (.ireturn, 1) := by decide +kernel
set_option maxRecDepth 20000 in
theorem ggX5_gangOn_X5_findLighter : GoodIn wsX5_gangOn wsX5_findLighter := goodIn_ca (goodIn_r _ [8, 9, 10, 11, 12, 13, 14, 15, 16, 17, 18, 19, 20, 21, 22, 23, 24, 25, 26, 27, 28, 29, 30, 31, 32, 33, 34, 35, 50, 51, 52, 53, 54, 55, 56, 57, 58, 59] (by decide +kernel) (by decide +kernel)) (goodIn_sub (fun _ h => List.mem_cons_of_mem _ (List.mem_append_right _ h)) (by decide +kernel))
set_option maxRecDepth 20000 in
theorem gX5_gangOn_X5_findLighter : GoodIn wsX5_gangOn (wsV RX5 86 RX5 yX5_findLighter wsX5_findLighter) := goodIn_app (goodIn_of _ (by decide +kernel)) ggX5_gangOn_X5_findLighter
theorem dX5_gangOn_0 : decode cX5_gangOn 0 = .ok (.aload_n 0, 1) := by decide +kernel
theorem dX5_gangOn_1 : decode cX5_gangOn 1 = .ok (.iload_n 1, 1) := by decide +kernel
theorem dX5_gangOn_2 : decode cX5_gangOn 2 = .ok (.invokevirtual 86, 3) := by decide +kernel
theorem dX5_gangOn_5 : decode cX5_gangOn 5 = .ok (.getfield 116, 3) := by decide +kernel
theorem dX5_gangOn_8 : decode cX5_gangOn 8 = .ok (.astore_n 2, 1) := by decide +kernel
theorem dX5_gangOn_9 : decode cX5_gangOn 9 = .ok (.aload_n 2, 1) := by decide +kernel
theorem dX5_gangOn_10 : decode cX5_gangOn 10 = .ok (.ifnonnull 7, 3) := by decide +kernel
theorem dX5_gangOn_13 : decode cX5_gangOn 13 = .ok (.iconst (-1), 1) := by decide +kernel
theorem dX5_gangOn_14 : decode cX5_gangOn 14 = .ok (.goto 10, 3) := by decide +kernel
theorem dX5_gangOn_17 : decode cX5_gangOn 17 = .ok (.aload_n 2, 1) := by decide +kernel
theorem dX5_gangOn_18 : decode cX5_gangOn 18 = .ok (.getfield 154, 3) := by decide +kernel
theorem dX5_gangOn_21 : decode cX5_gangOn 21 = .ok (.getfield 158, 3) := by decide +kernel
theorem dX5_gangOn_24 : decode cX5_gangOn 24 = .ok (.ireturn, 1) := by decide +kernel
set_option maxRecDepth 20000 in
theorem ggX5_restOf_X5_findGang : GoodIn wsX5_restOf wsX5_findGang := goodIn_ca (goodIn_r _ [6, 7, 8, 9, 10, 11, 12, 13, 14, 15, 16, 17, 18, 19, 20, 21, 22, 23, 24, 25, 26, 27, 28, 29, 30, 31, 32, 33, 39, 40, 41, 42, 43, 44, 45, 46, 47, 48] (by decide +kernel) (by decide +kernel)) (goodIn_sub (fun _ h => List.mem_cons_of_mem _ (List.mem_append_right _ h)) (by decide +kernel))
set_option maxRecDepth 20000 in
theorem gX5_restOf_X5_findGang : GoodIn wsX5_restOf (wsV RX5 90 RX5 yX5_findGang wsX5_findGang) := goodIn_app (goodIn_of _ (by decide +kernel)) ggX5_restOf_X5_findGang
theorem dX5_restOf_0 : decode cX5_restOf 0 = .ok (.aload_n 0, 1) := by decide +kernel
theorem dX5_restOf_1 : decode cX5_restOf 1 = .ok (.iload_n 1, 1) := by decide +kernel
theorem dX5_restOf_2 : decode cX5_restOf 2 = .ok (.invokevirtual 90, 3) := by decide +kernel
theorem dX5_restOf_5 : decode cX5_restOf 5 = .ok (.getfield 161, 3) := by decide +kernel
theorem dX5_restOf_8 : decode cX5_restOf 8 = .ok (.ireturn, 1) := by decide +kernel
set_option maxRecDepth 20000 in
theorem ggX5_fateOf_X5_findSteamer : GoodIn wsX5_fateOf wsX5_findSteamer := goodIn_ca (goodIn_r _ [6, 7, 8, 9, 10, 11, 12, 13, 14, 15, 16, 17, 18, 19, 20, 21, 22, 23, 24, 25, 26, 27, 28, 29, 30, 31, 32, 33, 38, 39, 40, 41, 42, 43, 44, 45, 46, 47] (by decide +kernel) (by decide +kernel)) (goodIn_sub (fun _ h => List.mem_cons_of_mem _ (List.mem_append_right _ h)) (by decide +kernel))
set_option maxRecDepth 20000 in
theorem gX5_fateOf_X5_findSteamer : GoodIn wsX5_fateOf (wsV RX5 94 RX5 yX5_findSteamer wsX5_findSteamer) := goodIn_app (goodIn_of _ (by decide +kernel)) ggX5_fateOf_X5_findSteamer
theorem dX5_fateOf_0 : decode cX5_fateOf 0 = .ok (.aload_n 0, 1) := by decide +kernel
theorem dX5_fateOf_1 : decode cX5_fateOf 1 = .ok (.iload_n 1, 1) := by decide +kernel
theorem dX5_fateOf_2 : decode cX5_fateOf 2 = .ok (.invokevirtual 94, 3) := by decide +kernel
theorem dX5_fateOf_5 : decode cX5_fateOf 5 = .ok (.getfield 164, 3) := by decide +kernel
theorem dX5_fateOf_8 : decode cX5_fateOf 8 = .ok (.ireturn, 1) := by decide +kernel
set_option maxRecDepth 20000 in
theorem ggX5_wantOf_X5_findSteamer : GoodIn wsX5_wantOf wsX5_findSteamer := goodIn_ca (goodIn_r _ [6, 7, 8, 9, 10, 11, 12, 13, 14, 15, 16, 17, 18, 19, 20, 21, 22, 23, 24, 25, 26, 27, 28, 29, 30, 31, 32, 33, 38, 39, 40, 41, 42, 43, 44, 45, 46, 47] (by decide +kernel) (by decide +kernel)) (goodIn_sub (fun _ h => List.mem_cons_of_mem _ (List.mem_append_right _ h)) (by decide +kernel))
set_option maxRecDepth 20000 in
theorem gX5_wantOf_X5_findSteamer : GoodIn wsX5_wantOf (wsV RX5 94 RX5 yX5_findSteamer wsX5_findSteamer) := goodIn_app (goodIn_of _ (by decide +kernel)) ggX5_wantOf_X5_findSteamer
theorem dX5_wantOf_0 : decode cX5_wantOf 0 = .ok (.aload_n 0, 1) := by decide +kernel
theorem dX5_wantOf_1 : decode cX5_wantOf 1 = .ok (.iload_n 1, 1) := by decide +kernel
theorem dX5_wantOf_2 : decode cX5_wantOf 2 = .ok (.invokevirtual 94, 3) := by decide +kernel
theorem dX5_wantOf_5 : decode cX5_wantOf 5 = .ok (.getfield 167, 3) := by decide +kernel
theorem dX5_wantOf_8 : decode cX5_wantOf 8 = .ok (.ireturn, 1) := by decide +kernel
set_option maxRecDepth 20000 in
theorem ggX5_outside_Jx4a65c_size_8abf5 : GoodIn wsX5_outside wsJx4a65c_size_8abf5 := goodIn_r _ [11, 12, 41, 42, 43] (by decide +kernel) (by decide +kernel)
set_option maxRecDepth 20000 in
theorem gX5_outside_Jx4a65c_size_8abf5 : GoodIn wsX5_outside (wsV RX5 32 RJx4a65c yJx4a65c_size_8abf5 wsJx4a65c_size_8abf5) := goodIn_app (goodIn_of _ (by decide +kernel)) ggX5_outside_Jx4a65c_size_8abf5
set_option maxRecDepth 20000 in
theorem ggX5_outside_Jx4a65c_get_915e3 : GoodIn wsX5_outside wsJx4a65c_get_915e3 := goodIn_r _ [16, 12, 17, 18, 19, 20, 21, 22, 23, 24, 25, 26, 27, 10, 28, 29, 41, 42, 43] (by decide +kernel) (by decide +kernel)
set_option maxRecDepth 20000 in
theorem gX5_outside_Jx4a65c_get_915e3 : GoodIn wsX5_outside (wsV RX5 62 RJx4a65c yJx4a65c_get_915e3 wsJx4a65c_get_915e3) := goodIn_app (goodIn_of _ (by decide +kernel)) ggX5_outside_Jx4a65c_get_915e3
theorem dX5_outside_0 : decode cX5_outside 0 = .ok (.iload_n 1, 1) := by decide +kernel
theorem dX5_outside_1 : decode cX5_outside 1 = .ok (.ifCond .ge 13, 3) := by decide +kernel
theorem dX5_outside_4 : decode cX5_outside 4 = .ok (.new 170, 3) := by decide +kernel
theorem dX5_outside_7 : decode cX5_outside 7 = .ok (.dup, 1) := by decide +kernel
theorem dX5_outside_8 : decode cX5_outside 8 = .ok (.ldc 172, 2) := by decide +kernel
theorem dX5_outside_10 : decode cX5_outside 10 = .ok (.invokespecial 174, 3) := by decide +kernel
theorem dX5_outside_13 : decode cX5_outside 13 = .ok (.athrow, 1) := by decide +kernel
theorem dX5_outside_14 : decode cX5_outside 14 = .ok (.iconst 0, 1) := by decide +kernel
theorem dX5_outside_15 : decode cX5_outside 15 = .ok (.istore_n 2, 1) := by decide +kernel
theorem dX5_outside_16 : decode cX5_outside 16 = .ok (.iconst 0, 1) := by decide +kernel
theorem dX5_outside_17 : decode cX5_outside 17 = .ok (.istore_n 3, 1) := by decide +kernel
theorem dX5_outside_18 : decode cX5_outside 18 = .ok (.iload_n 3, 1) := by decide +kernel
theorem dX5_outside_19 : decode cX5_outside 19 = .ok (.aload_n 0, 1) := by decide +kernel
theorem dX5_outside_20 : decode cX5_outside 20 = .ok (.getfield 25, 3) := by decide +kernel
theorem dX5_outside_23 : decode cX5_outside 23 = .ok (.invokevirtual 32, 3) := by decide +kernel
theorem dX5_outside_26 : decode cX5_outside 26 = .ok (.if_icmp .ge 44, 3) := by decide +kernel
theorem dX5_outside_29 : decode cX5_outside 29 = .ok (.aload_n 0, 1) := by decide +kernel
theorem dX5_outside_30 : decode cX5_outside 30 = .ok (.getfield 25, 3) := by decide +kernel
theorem dX5_outside_33 : decode cX5_outside 33 = .ok (.iload_n 3, 1) := by decide +kernel
theorem dX5_outside_34 : decode cX5_outside 34 = .ok (.invokevirtual 62, 3) := by decide +kernel
theorem dX5_outside_37 : decode cX5_outside 37 = .ok (.checkcast 82, 3) := by decide +kernel
theorem dX5_outside_40 : decode cX5_outside 40 = .ok (.astore 4, 2) := by decide +kernel
theorem dX5_outside_42 : decode cX5_outside 42 = .ok (.aload 4, 2) := by decide +kernel
theorem dX5_outside_44 : decode cX5_outside 44 = .ok (.getfield 164, 3) := by decide +kernel
theorem dX5_outside_47 : decode cX5_outside 47 = .ok (.ifCond .ne 17, 3) := by decide +kernel
theorem dX5_outside_50 : decode cX5_outside 50 = .ok (.iload_n 2, 1) := by decide +kernel
theorem dX5_outside_51 : decode cX5_outside 51 = .ok (.iload_n 1, 1) := by decide +kernel
theorem dX5_outside_52 : decode cX5_outside 52 = .ok (.if_icmp .ne 9, 3) := by decide +kernel
theorem dX5_outside_55 : decode cX5_outside 55 = .ok (.aload 4, 2) := by decide +kernel
theorem dX5_outside_57 : decode cX5_outside 57 = .ok (.getfield 175, 3) := by decide +kernel
theorem dX5_outside_60 : decode cX5_outside 60 = .ok (.ireturn, 1) := by decide +kernel
theorem dX5_outside_61 : decode cX5_outside 61 = .ok (.iinc 2 1, 3) := by decide +kernel
theorem dX5_outside_64 : decode cX5_outside 64 = .ok (.iinc 3 1, 3) := by decide +kernel
theorem dX5_outside_67 : decode cX5_outside 67 = .ok (.goto (-49), 3) := by decide +kernel
theorem dX5_outside_70 : decode cX5_outside 70 = .ok (.iconst (-1), 1) := by decide +kernel
theorem dX5_outside_71 : decode cX5_outside 71 = .ok (.ireturn, 1) := by decide +kernel
theorem dX5_delivered_0 : decode cX5_delivered 0 = .ok (.aload_n 0, 1) := by decide +kernel
theorem dX5_delivered_1 : decode cX5_delivered 1 = .ok (.getfield 176, 3) := by decide +kernel
theorem dX5_delivered_4 : decode cX5_delivered 4 = .ok (.ireturn, 1) := by decide +kernel
theorem dX5_refuseOutOfRange_0 : decode cX5_refuseOutOfRange 0 = .ok (.iload_n 0, 1) := by decide +kernel
theorem dX5_refuseOutOfRange_1 : decode cX5_refuseOutOfRange 1 = .ok (.iload_n 1, 1) := by decide +kernel
theorem dX5_refuseOutOfRange_2 : decode cX5_refuseOutOfRange 2 = .ok (.if_icmp .lt 8, 3) := by decide +kernel
theorem dX5_refuseOutOfRange_5 : decode cX5_refuseOutOfRange 5 = .ok (.iload_n 0, 1) := by decide +kernel
theorem dX5_refuseOutOfRange_6 : decode cX5_refuseOutOfRange 6 = .ok (.iload_n 2, 1) := by decide +kernel
theorem dX5_refuseOutOfRange_7 : decode cX5_refuseOutOfRange 7 = .ok (.if_icmp .le 13, 3) := by decide +kernel
theorem dX5_refuseOutOfRange_10 : decode cX5_refuseOutOfRange 10 = .ok (.new 170, 3) := by decide +kernel
theorem dX5_refuseOutOfRange_13 : decode cX5_refuseOutOfRange 13 = .ok (.dup, 1) := by decide +kernel
theorem dX5_refuseOutOfRange_14 : decode cX5_refuseOutOfRange 14 = .ok (.ldc 179, 2) := by decide +kernel
theorem dX5_refuseOutOfRange_16 : decode cX5_refuseOutOfRange 16 = .ok (.invokespecial 174, 3) := by decide +kernel
theorem dX5_refuseOutOfRange_19 : decode cX5_refuseOutOfRange 19 = .ok (.athrow, 1) := by decide +kernel
theorem dX5_refuseOutOfRange_20 : decode cX5_refuseOutOfRange 20 = .ok (.return_, 1) := by decide +kernel
theorem dX5_refuseOrdered_0 : decode cX5_refuseOrdered 0 = .ok (.aload_n 0, 1) := by decide +kernel
theorem dX5_refuseOrdered_1 : decode cX5_refuseOrdered 1 = .ok (.getfield 116, 3) := by decide +kernel
theorem dX5_refuseOrdered_4 : decode cX5_refuseOrdered 4 = .ok (.ifnull 13, 3) := by decide +kernel
theorem dX5_refuseOrdered_7 : decode cX5_refuseOrdered 7 = .ok (.new 36, 3) := by decide +kernel
theorem dX5_refuseOrdered_10 : decode cX5_refuseOrdered 10 = .ok (.dup, 1) := by decide +kernel
theorem dX5_refuseOrdered_11 : decode cX5_refuseOrdered 11 = .ok (.ldc 181, 2) := by decide +kernel
theorem dX5_refuseOrdered_13 : decode cX5_refuseOrdered 13 = .ok (.invokespecial 40, 3) := by decide +kernel
theorem dX5_refuseOrdered_16 : decode cX5_refuseOrdered 16 = .ok (.athrow, 1) := by decide +kernel
theorem dX5_refuseOrdered_17 : decode cX5_refuseOrdered 17 = .ok (.return_, 1) := by decide +kernel
set_option maxRecDepth 20000 in
theorem ggX5_refuseBusy_X0_isFree : GoodIn wsX5_refuseBusy wsX0_isFree := goodIn_r _ [7, 8, 9, 10, 11, 12, 13, 14] (by decide +kernel) (by decide +kernel)
set_option maxRecDepth 20000 in
theorem gX5_refuseBusy_X0_isFree : GoodIn wsX5_refuseBusy (wsV RX5 183 RX0 yX0_isFree wsX0_isFree) := goodIn_app (goodIn_of _ (by decide +kernel)) ggX5_refuseBusy_X0_isFree
theorem dX5_refuseBusy_0 : decode cX5_refuseBusy 0 = .ok (.aload_n 0, 1) := by decide +kernel
theorem dX5_refuseBusy_1 : decode cX5_refuseBusy 1 = .ok (.invokevirtual 183, 3) := by decide +kernel
theorem dX5_refuseBusy_4 : decode cX5_refuseBusy 4 = .ok (.ifCond .ne 13, 3) := by decide +kernel
theorem dX5_refuseBusy_7 : decode cX5_refuseBusy 7 = .ok (.new 36, 3) := by decide +kernel
theorem dX5_refuseBusy_10 : decode cX5_refuseBusy 10 = .ok (.dup, 1) := by decide +kernel
theorem dX5_refuseBusy_11 : decode cX5_refuseBusy 11 = .ok (.ldc 186, 2) := by decide +kernel
theorem dX5_refuseBusy_13 : decode cX5_refuseBusy 13 = .ok (.invokespecial 40, 3) := by decide +kernel
theorem dX5_refuseBusy_16 : decode cX5_refuseBusy 16 = .ok (.athrow, 1) := by decide +kernel
theorem dX5_refuseBusy_17 : decode cX5_refuseBusy 17 = .ok (.return_, 1) := by decide +kernel
set_option maxRecDepth 20000 in
theorem ggX5_findHulk_Jx4a65c_size_8abf5 : GoodIn wsX5_findHulk wsJx4a65c_size_8abf5 := goodIn_r _ [9, 10, 35, 36, 37] (by decide +kernel) (by decide +kernel)
set_option maxRecDepth 20000 in
theorem gX5_findHulk_Jx4a65c_size_8abf5 : GoodIn wsX5_findHulk (wsV RX5 32 RJx4a65c yJx4a65c_size_8abf5 wsJx4a65c_size_8abf5) := goodIn_app (goodIn_of _ (by decide +kernel)) ggX5_findHulk_Jx4a65c_size_8abf5
set_option maxRecDepth 20000 in
theorem ggX5_findHulk_Jx4a65c_get_915e3 : GoodIn wsX5_findHulk wsJx4a65c_get_915e3 := goodIn_r _ [14, 10, 15, 16, 17, 18, 19, 20, 21, 22, 23, 24, 25, 8, 26, 27, 35, 36, 37] (by decide +kernel) (by decide +kernel)
set_option maxRecDepth 20000 in
theorem gX5_findHulk_Jx4a65c_get_915e3 : GoodIn wsX5_findHulk (wsV RX5 62 RJx4a65c yJx4a65c_get_915e3 wsJx4a65c_get_915e3) := goodIn_app (goodIn_of _ (by decide +kernel)) ggX5_findHulk_Jx4a65c_get_915e3
theorem dX5_findHulk_0 : decode cX5_findHulk 0 = .ok (.iload_n 1, 1) := by decide +kernel
theorem dX5_findHulk_1 : decode cX5_findHulk 1 = .ok (.ifCond .lt 14, 3) := by decide +kernel
theorem dX5_findHulk_4 : decode cX5_findHulk 4 = .ok (.iload_n 1, 1) := by decide +kernel
theorem dX5_findHulk_5 : decode cX5_findHulk 5 = .ok (.aload_n 0, 1) := by decide +kernel
theorem dX5_findHulk_6 : decode cX5_findHulk 6 = .ok (.getfield 10, 3) := by decide +kernel
theorem dX5_findHulk_9 : decode cX5_findHulk 9 = .ok (.invokevirtual 32, 3) := by decide +kernel
theorem dX5_findHulk_12 : decode cX5_findHulk 12 = .ok (.if_icmp .lt 13, 3) := by decide +kernel
theorem dX5_findHulk_15 : decode cX5_findHulk 15 = .ok (.new 188, 3) := by decide +kernel
theorem dX5_findHulk_18 : decode cX5_findHulk 18 = .ok (.dup, 1) := by decide +kernel
theorem dX5_findHulk_19 : decode cX5_findHulk 19 = .ok (.ldc 190, 2) := by decide +kernel
theorem dX5_findHulk_21 : decode cX5_findHulk 21 = .ok (.invokespecial 192, 3) := by decide +kernel
theorem dX5_findHulk_24 : decode cX5_findHulk 24 = .ok (.athrow, 1) := by decide +kernel
theorem dX5_findHulk_25 : decode cX5_findHulk 25 = .ok (.aload_n 0, 1) := by decide +kernel
theorem dX5_findHulk_26 : decode cX5_findHulk 26 = .ok (.getfield 10, 3) := by decide +kernel
theorem dX5_findHulk_29 : decode cX5_findHulk 29 = .ok (.iload_n 1, 1) := by decide +kernel
theorem dX5_findHulk_30 : decode cX5_findHulk 30 = .ok (.invokevirtual 62, 3) := by decide +kernel
theorem dX5_findHulk_33 : decode cX5_findHulk 33 = .ok (.checkcast 43, 3) := by decide +kernel
theorem dX5_findHulk_36 : decode cX5_findHulk 36 = .ok (.areturn, 1) := by decide +kernel
set_option maxRecDepth 20000 in
theorem ggX5_findLighter_Jx4a65c_size_8abf5 : GoodIn wsX5_findLighter wsJx4a65c_size_8abf5 := goodIn_r _ [9, 10, 35, 36, 37] (by decide +kernel) (by decide +kernel)
set_option maxRecDepth 20000 in
theorem gX5_findLighter_Jx4a65c_size_8abf5 : GoodIn wsX5_findLighter (wsV RX5 32 RJx4a65c yJx4a65c_size_8abf5 wsJx4a65c_size_8abf5) := goodIn_app (goodIn_of _ (by decide +kernel)) ggX5_findLighter_Jx4a65c_size_8abf5
set_option maxRecDepth 20000 in
theorem ggX5_findLighter_Jx4a65c_get_915e3 : GoodIn wsX5_findLighter wsJx4a65c_get_915e3 := goodIn_r _ [14, 10, 15, 16, 17, 18, 19, 20, 21, 22, 23, 24, 25, 8, 26, 27, 35, 36, 37] (by decide +kernel) (by decide +kernel)
set_option maxRecDepth 20000 in
theorem gX5_findLighter_Jx4a65c_get_915e3 : GoodIn wsX5_findLighter (wsV RX5 62 RJx4a65c yJx4a65c_get_915e3 wsJx4a65c_get_915e3) := goodIn_app (goodIn_of _ (by decide +kernel)) ggX5_findLighter_Jx4a65c_get_915e3
theorem dX5_findLighter_0 : decode cX5_findLighter 0 = .ok (.iload_n 1, 1) := by decide +kernel
theorem dX5_findLighter_1 : decode cX5_findLighter 1 = .ok (.ifCond .lt 14, 3) := by decide +kernel
theorem dX5_findLighter_4 : decode cX5_findLighter 4 = .ok (.iload_n 1, 1) := by decide +kernel
theorem dX5_findLighter_5 : decode cX5_findLighter 5 = .ok (.aload_n 0, 1) := by decide +kernel
theorem dX5_findLighter_6 : decode cX5_findLighter 6 = .ok (.getfield 16, 3) := by decide +kernel
theorem dX5_findLighter_9 : decode cX5_findLighter 9 = .ok (.invokevirtual 32, 3) := by decide +kernel
theorem dX5_findLighter_12 : decode cX5_findLighter 12 = .ok (.if_icmp .lt 13, 3) := by decide +kernel
theorem dX5_findLighter_15 : decode cX5_findLighter 15 = .ok (.new 188, 3) := by decide +kernel
theorem dX5_findLighter_18 : decode cX5_findLighter 18 = .ok (.dup, 1) := by decide +kernel
theorem dX5_findLighter_19 : decode cX5_findLighter 19 = .ok (.ldc 193, 2) := by decide +kernel
theorem dX5_findLighter_21 : decode cX5_findLighter 21 = .ok (.invokespecial 192, 3) := by decide +kernel
theorem dX5_findLighter_24 : decode cX5_findLighter 24 = .ok (.athrow, 1) := by decide +kernel
theorem dX5_findLighter_25 : decode cX5_findLighter 25 = .ok (.aload_n 0, 1) := by decide +kernel
theorem dX5_findLighter_26 : decode cX5_findLighter 26 = .ok (.getfield 16, 3) := by decide +kernel
theorem dX5_findLighter_29 : decode cX5_findLighter 29 = .ok (.iload_n 1, 1) := by decide +kernel
theorem dX5_findLighter_30 : decode cX5_findLighter 30 = .ok (.invokevirtual 62, 3) := by decide +kernel
theorem dX5_findLighter_33 : decode cX5_findLighter 33 = .ok (.checkcast 60, 3) := by decide +kernel
theorem dX5_findLighter_36 : decode cX5_findLighter 36 = .ok (.areturn, 1) := by decide +kernel
set_option maxRecDepth 20000 in
theorem ggX5_findGang_Jx4a65c_size_8abf5 : GoodIn wsX5_findGang wsJx4a65c_size_8abf5 := goodIn_r _ [9, 10, 35, 36, 37] (by decide +kernel) (by decide +kernel)
set_option maxRecDepth 20000 in
theorem gX5_findGang_Jx4a65c_size_8abf5 : GoodIn wsX5_findGang (wsV RX5 32 RJx4a65c yJx4a65c_size_8abf5 wsJx4a65c_size_8abf5) := goodIn_app (goodIn_of _ (by decide +kernel)) ggX5_findGang_Jx4a65c_size_8abf5
set_option maxRecDepth 20000 in
theorem ggX5_findGang_Jx4a65c_get_915e3 : GoodIn wsX5_findGang wsJx4a65c_get_915e3 := goodIn_r _ [14, 10, 15, 16, 17, 18, 19, 20, 21, 22, 23, 24, 25, 8, 26, 27, 35, 36, 37] (by decide +kernel) (by decide +kernel)
set_option maxRecDepth 20000 in
theorem gX5_findGang_Jx4a65c_get_915e3 : GoodIn wsX5_findGang (wsV RX5 62 RJx4a65c yJx4a65c_get_915e3 wsJx4a65c_get_915e3) := goodIn_app (goodIn_of _ (by decide +kernel)) ggX5_findGang_Jx4a65c_get_915e3
theorem dX5_findGang_0 : decode cX5_findGang 0 = .ok (.iload_n 1, 1) := by decide +kernel
theorem dX5_findGang_1 : decode cX5_findGang 1 = .ok (.ifCond .lt 14, 3) := by decide +kernel
theorem dX5_findGang_4 : decode cX5_findGang 4 = .ok (.iload_n 1, 1) := by decide +kernel
theorem dX5_findGang_5 : decode cX5_findGang 5 = .ok (.aload_n 0, 1) := by decide +kernel
theorem dX5_findGang_6 : decode cX5_findGang 6 = .ok (.getfield 19, 3) := by decide +kernel
theorem dX5_findGang_9 : decode cX5_findGang 9 = .ok (.invokevirtual 32, 3) := by decide +kernel
theorem dX5_findGang_12 : decode cX5_findGang 12 = .ok (.if_icmp .lt 13, 3) := by decide +kernel
theorem dX5_findGang_15 : decode cX5_findGang 15 = .ok (.new 188, 3) := by decide +kernel
theorem dX5_findGang_18 : decode cX5_findGang 18 = .ok (.dup, 1) := by decide +kernel
theorem dX5_findGang_19 : decode cX5_findGang 19 = .ok (.ldc 195, 2) := by decide +kernel
theorem dX5_findGang_21 : decode cX5_findGang 21 = .ok (.invokespecial 192, 3) := by decide +kernel
theorem dX5_findGang_24 : decode cX5_findGang 24 = .ok (.athrow, 1) := by decide +kernel
theorem dX5_findGang_25 : decode cX5_findGang 25 = .ok (.aload_n 0, 1) := by decide +kernel
theorem dX5_findGang_26 : decode cX5_findGang 26 = .ok (.getfield 19, 3) := by decide +kernel
theorem dX5_findGang_29 : decode cX5_findGang 29 = .ok (.iload_n 1, 1) := by decide +kernel
theorem dX5_findGang_30 : decode cX5_findGang 30 = .ok (.invokevirtual 62, 3) := by decide +kernel
theorem dX5_findGang_33 : decode cX5_findGang 33 = .ok (.checkcast 71, 3) := by decide +kernel
theorem dX5_findGang_36 : decode cX5_findGang 36 = .ok (.areturn, 1) := by decide +kernel
set_option maxRecDepth 20000 in
theorem ggX5_findSteamer_Jx4a65c_size_8abf5 : GoodIn wsX5_findSteamer wsJx4a65c_size_8abf5 := goodIn_r _ [9, 10, 35, 36, 37] (by decide +kernel) (by decide +kernel)
set_option maxRecDepth 20000 in
theorem gX5_findSteamer_Jx4a65c_size_8abf5 : GoodIn wsX5_findSteamer (wsV RX5 32 RJx4a65c yJx4a65c_size_8abf5 wsJx4a65c_size_8abf5) := goodIn_app (goodIn_of _ (by decide +kernel)) ggX5_findSteamer_Jx4a65c_size_8abf5
set_option maxRecDepth 20000 in
theorem ggX5_findSteamer_Jx4a65c_get_915e3 : GoodIn wsX5_findSteamer wsJx4a65c_get_915e3 := goodIn_r _ [14, 10, 15, 16, 17, 18, 19, 20, 21, 22, 23, 24, 25, 8, 26, 27, 35, 36, 37] (by decide +kernel) (by decide +kernel)
set_option maxRecDepth 20000 in
theorem gX5_findSteamer_Jx4a65c_get_915e3 : GoodIn wsX5_findSteamer (wsV RX5 62 RJx4a65c yJx4a65c_get_915e3 wsJx4a65c_get_915e3) := goodIn_app (goodIn_of _ (by decide +kernel)) ggX5_findSteamer_Jx4a65c_get_915e3
theorem dX5_findSteamer_0 : decode cX5_findSteamer 0 = .ok (.iload_n 1, 1) := by decide +kernel
theorem dX5_findSteamer_1 : decode cX5_findSteamer 1 = .ok (.ifCond .lt 14, 3) := by decide +kernel
theorem dX5_findSteamer_4 : decode cX5_findSteamer 4 = .ok (.iload_n 1, 1) := by decide +kernel
theorem dX5_findSteamer_5 : decode cX5_findSteamer 5 = .ok (.aload_n 0, 1) := by decide +kernel
theorem dX5_findSteamer_6 : decode cX5_findSteamer 6 = .ok (.getfield 22, 3) := by decide +kernel
theorem dX5_findSteamer_9 : decode cX5_findSteamer 9 = .ok (.invokevirtual 32, 3) := by decide +kernel
theorem dX5_findSteamer_12 : decode cX5_findSteamer 12 = .ok (.if_icmp .lt 13, 3) := by decide +kernel
theorem dX5_findSteamer_15 : decode cX5_findSteamer 15 = .ok (.new 188, 3) := by decide +kernel
theorem dX5_findSteamer_18 : decode cX5_findSteamer 18 = .ok (.dup, 1) := by decide +kernel
theorem dX5_findSteamer_19 : decode cX5_findSteamer 19 = .ok (.ldc 197, 2) := by decide +kernel
theorem dX5_findSteamer_21 : decode cX5_findSteamer 21 = .ok (.invokespecial 192, 3) := by decide +kernel
theorem dX5_findSteamer_24 : decode cX5_findSteamer 24 = .ok (.athrow, 1) := by decide +kernel
theorem dX5_findSteamer_25 : decode cX5_findSteamer 25 = .ok (.aload_n 0, 1) := by decide +kernel
theorem dX5_findSteamer_26 : decode cX5_findSteamer 26 = .ok (.getfield 22, 3) := by decide +kernel
theorem dX5_findSteamer_29 : decode cX5_findSteamer 29 = .ok (.iload_n 1, 1) := by decide +kernel
theorem dX5_findSteamer_30 : decode cX5_findSteamer 30 = .ok (.invokevirtual 62, 3) := by decide +kernel
theorem dX5_findSteamer_33 : decode cX5_findSteamer 33 = .ok (.checkcast 82, 3) := by decide +kernel
theorem dX5_findSteamer_36 : decode cX5_findSteamer 36 = .ok (.areturn, 1) := by decide +kernel
set_option maxRecDepth 20000 in
theorem ggX5_countFaring_Jx4a65c_size_8abf5 : GoodIn wsX5_countFaring wsJx4a65c_size_8abf5 := goodIn_r _ [8, 9, 38, 39, 40] (by decide +kernel) (by decide +kernel)
set_option maxRecDepth 20000 in
theorem gX5_countFaring_Jx4a65c_size_8abf5 : GoodIn wsX5_countFaring (wsV RX5 32 RJx4a65c yJx4a65c_size_8abf5 wsJx4a65c_size_8abf5) := goodIn_app (goodIn_of _ (by decide +kernel)) ggX5_countFaring_Jx4a65c_size_8abf5
set_option maxRecDepth 20000 in
theorem ggX5_countFaring_Jx4a65c_get_915e3 : GoodIn wsX5_countFaring wsJx4a65c_get_915e3 := goodIn_r _ [13, 9, 14, 15, 16, 17, 18, 19, 20, 21, 22, 23, 24, 7, 25, 26, 38, 39, 40] (by decide +kernel) (by decide +kernel)
set_option maxRecDepth 20000 in
theorem gX5_countFaring_Jx4a65c_get_915e3 : GoodIn wsX5_countFaring (wsV RX5 62 RJx4a65c yJx4a65c_get_915e3 wsJx4a65c_get_915e3) := goodIn_app (goodIn_of _ (by decide +kernel)) ggX5_countFaring_Jx4a65c_get_915e3
theorem dX5_countFaring_0 : decode cX5_countFaring 0 = .ok (.iconst 0, 1) := by decide +kernel
theorem dX5_countFaring_1 : decode cX5_countFaring 1 = .ok (.istore_n 2, 1) := by decide +kernel
theorem dX5_countFaring_2 : decode cX5_countFaring 2 = .ok (.iconst 0, 1) := by decide +kernel
theorem dX5_countFaring_3 : decode cX5_countFaring 3 = .ok (.istore_n 3, 1) := by decide +kernel
theorem dX5_countFaring_4 : decode cX5_countFaring 4 = .ok (.iload_n 3, 1) := by decide +kernel
theorem dX5_countFaring_5 : decode cX5_countFaring 5 = .ok (.aload_n 0, 1) := by decide +kernel
theorem dX5_countFaring_6 : decode cX5_countFaring 6 = .ok (.getfield 25, 3) := by decide +kernel
theorem dX5_countFaring_9 : decode cX5_countFaring 9 = .ok (.invokevirtual 32, 3) := by decide +kernel
theorem dX5_countFaring_12 : decode cX5_countFaring 12 = .ok (.if_icmp .ge 30, 3) := by decide +kernel
theorem dX5_countFaring_15 : decode cX5_countFaring 15 = .ok (.aload_n 0, 1) := by decide +kernel
theorem dX5_countFaring_16 : decode cX5_countFaring 16 = .ok (.getfield 25, 3) := by decide +kernel
theorem dX5_countFaring_19 : decode cX5_countFaring 19 = .ok (.iload_n 3, 1) := by decide +kernel
theorem dX5_countFaring_20 : decode cX5_countFaring 20 = .ok (.invokevirtual 62, 3) := by decide +kernel
theorem dX5_countFaring_23 : decode cX5_countFaring 23 = .ok (.checkcast 82, 3) := by decide +kernel
theorem dX5_countFaring_26 : decode cX5_countFaring 26 = .ok (.getfield 164, 3) := by decide +kernel
theorem dX5_countFaring_29 : decode cX5_countFaring 29 = .ok (.iload_n 1, 1) := by decide +kernel
theorem dX5_countFaring_30 : decode cX5_countFaring 30 = .ok (.if_icmp .ne 6, 3) := by decide +kernel
theorem dX5_countFaring_33 : decode cX5_countFaring 33 = .ok (.iinc 2 1, 3) := by decide +kernel
theorem dX5_countFaring_36 : decode cX5_countFaring 36 = .ok (.iinc 3 1, 3) := by decide +kernel
theorem dX5_countFaring_39 : decode cX5_countFaring 39 = .ok (.goto (-35), 3) := by decide +kernel
theorem dX5_countFaring_42 : decode cX5_countFaring 42 = .ok (.iload_n 2, 1) := by decide +kernel
theorem dX5_countFaring_43 : decode cX5_countFaring 43 = .ok (.ireturn, 1) := by decide +kernel
set_option maxRecDepth 20000 in
theorem ggX5_passAnHour_X5_restGangs : GoodIn wsX5_passAnHour wsX5_restGangs := goodIn_r _ [6, 7, 8, 9, 10, 11, 12, 13, 14, 15, 16, 17, 18, 19, 20, 21, 22, 23, 24, 25, 26, 27, 28, 29, 30, 31, 32, 143, 144, 145, 146, 147, 148, 149, 150, 151, 152, 153, 154, 155, 156, 157] (by decide +kernel) (by decide +kernel)
set_option maxRecDepth 20000 in
theorem gX5_passAnHour_X5_restGangs : GoodIn wsX5_passAnHour (wsV RX5 199 RX5 yX5_restGangs wsX5_restGangs) := goodIn_app (goodIn_of _ (by decide +kernel)) ggX5_passAnHour_X5_restGangs
set_option maxRecDepth 20000 in
theorem ggX5_passAnHour_X5_takeBuoys : GoodIn wsX5_passAnHour wsX5_takeBuoys := goodIn_r _ [36, 37, 38, 39, 40, 41, 42, 5, 43, 10, 11, 12, 13, 14, 15, 16, 17, 18, 19, 20, 21, 22, 23, 24, 25, 26, 27, 28, 29, 30, 31, 32, 143, 144, 145, 146, 147, 148, 149, 158, 159, 160, 161, 155, 156, 157] (by decide +kernel) (by decide +kernel)
set_option maxRecDepth 20000 in
theorem gX5_passAnHour_X5_takeBuoys : GoodIn wsX5_passAnHour (wsV RX5 202 RX5 yX5_takeBuoys wsX5_takeBuoys) := goodIn_app (goodIn_of _ (by decide +kernel)) ggX5_passAnHour_X5_takeBuoys
set_option maxRecDepth 20000 in
theorem ggX5_passAnHour_X5_workLighters : GoodIn wsX5_passAnHour wsX5_workLighters := goodIn_r _ [47, 48, 49, 50, 51, 52, 10, 11, 12, 13, 14, 15, 16, 17, 18, 19, 20, 21, 22, 23, 24, 25, 26, 27, 28, 29, 30, 31, 32, 53, 54, 55, 5, 56, 57, 58, 59, 60, 61, 62, 63, 64, 65, 66, 67, 68, 69, 70, 71, 72, 73, 74, 75, 76, 77, 78, 79, 80, 81, 82, 83, 84, 85, 86, 87, 88, 89, 90, 91, 92, 93, 94, 95, 96, 97, 39, 98, 99, 100, 101, 102, 103, 104, 105, 106, 143, 144, 145, 146, 147, 148, 149, 162, 163, 164, 165, 166, 167, 168, 169, 170, 150, 151, 152, 153, 154, 155, 156, 157, 171, 158, 159, 160, 161] (by decide +kernel) (by decide +kernel)
set_option maxRecDepth 20000 in
theorem gX5_passAnHour_X5_workLighters : GoodIn wsX5_passAnHour (wsV RX5 205 RX5 yX5_workLighters wsX5_workLighters) := goodIn_app (goodIn_of _ (by decide +kernel)) ggX5_passAnHour_X5_workLighters
set_option maxRecDepth 20000 in
theorem ggX5_passAnHour_X5_letSteamersLeave : GoodIn wsX5_passAnHour wsX5_letSteamersLeave := goodIn_r _ [110, 37, 38, 111, 102, 39, 10, 11, 12, 13, 14, 15, 16, 17, 18, 19, 20, 21, 22, 23, 24, 25, 26, 27, 28, 29, 30, 31, 32, 112, 113, 114, 5, 115, 48, 49, 50, 97, 116, 117, 118, 57, 80, 81, 82, 51, 83, 52, 84, 85, 86, 77, 87, 88, 89, 119, 120, 121, 122, 123, 124, 125, 126, 127, 128, 129, 130, 131, 132, 133, 134, 135, 136, 137, 138, 139, 140, 141, 142, 143, 144, 145, 146, 147, 148, 149, 158, 159, 160, 161, 155, 156, 157, 162, 163, 164, 165, 166, 167, 168, 169, 170, 150, 151, 152, 153, 154] (by decide +kernel) (by decide +kernel)
set_option maxRecDepth 20000 in
theorem gX5_passAnHour_X5_letSteamersLeave : GoodIn wsX5_passAnHour (wsV RX5 208 RX5 yX5_letSteamersLeave wsX5_letSteamersLeave) := goodIn_app (goodIn_of _ (by decide +kernel)) ggX5_passAnHour_X5_letSteamersLeave
theorem dX5_passAnHour_0 : decode cX5_passAnHour 0 = .ok (.aload_n 0, 1) := by decide +kernel
theorem dX5_passAnHour_1 : decode cX5_passAnHour 1 = .ok (.invokevirtual 199, 3) := by decide +kernel
theorem dX5_passAnHour_4 : decode cX5_passAnHour 4 = .ok (.aload_n 0, 1) := by decide +kernel
theorem dX5_passAnHour_5 : decode cX5_passAnHour 5 = .ok (.invokevirtual 202, 3) := by decide +kernel
theorem dX5_passAnHour_8 : decode cX5_passAnHour 8 = .ok (.aload_n 0, 1) := by decide +kernel
theorem dX5_passAnHour_9 : decode cX5_passAnHour 9 = .ok (.invokevirtual 205, 3) := by decide +kernel
theorem dX5_passAnHour_12 : decode cX5_passAnHour 12 = .ok (.aload_n 0, 1) := by decide +kernel
theorem dX5_passAnHour_13 : decode cX5_passAnHour 13 = .ok (.invokevirtual 208, 3) := by decide +kernel
theorem dX5_passAnHour_16 : decode cX5_passAnHour 16 = .ok (.istore_n 1, 1) := by decide +kernel
theorem dX5_passAnHour_17 : decode cX5_passAnHour 17 = .ok (.aload_n 0, 1) := by decide +kernel
theorem dX5_passAnHour_18 : decode cX5_passAnHour 18 = .ok (.dup, 1) := by decide +kernel
theorem dX5_passAnHour_19 : decode cX5_passAnHour 19 = .ok (.getfield 145, 3) := by decide +kernel
theorem dX5_passAnHour_22 : decode cX5_passAnHour 22 = .ok (.iconst 1, 1) := by decide +kernel
theorem dX5_passAnHour_23 : decode cX5_passAnHour 23 = .ok (.iadd, 1) := by decide +kernel
theorem dX5_passAnHour_24 : decode cX5_passAnHour 24 = .ok (.putfield 145, 3) := by decide +kernel
theorem dX5_passAnHour_27 : decode cX5_passAnHour 27 = .ok (.iload_n 1, 1) := by decide +kernel
theorem dX5_passAnHour_28 : decode cX5_passAnHour 28 = .ok (.ireturn, 1) := by decide +kernel
set_option maxRecDepth 20000 in
theorem ggX5_restGangs_Jx4a65c_size_8abf5 : GoodIn wsX5_restGangs wsJx4a65c_size_8abf5 := goodIn_r _ [8, 9, 39, 40, 41] (by decide +kernel) (by decide +kernel)
set_option maxRecDepth 20000 in
theorem gX5_restGangs_Jx4a65c_size_8abf5 : GoodIn wsX5_restGangs (wsV RX5 32 RJx4a65c yJx4a65c_size_8abf5 wsJx4a65c_size_8abf5) := goodIn_app (goodIn_of _ (by decide +kernel)) ggX5_restGangs_Jx4a65c_size_8abf5
set_option maxRecDepth 20000 in
theorem ggX5_restGangs_Jx4a65c_get_915e3 : GoodIn wsX5_restGangs wsJx4a65c_get_915e3 := goodIn_r _ [13, 9, 14, 15, 16, 17, 18, 19, 20, 21, 22, 23, 24, 7, 25, 26, 39, 40, 41] (by decide +kernel) (by decide +kernel)
set_option maxRecDepth 20000 in
theorem gX5_restGangs_Jx4a65c_get_915e3 : GoodIn wsX5_restGangs (wsV RX5 62 RJx4a65c yJx4a65c_get_915e3 wsJx4a65c_get_915e3) := goodIn_app (goodIn_of _ (by decide +kernel)) ggX5_restGangs_Jx4a65c_get_915e3
theorem dX5_restGangs_0 : decode cX5_restGangs 0 = .ok (.iconst 0, 1) := by decide +kernel
theorem dX5_restGangs_1 : decode cX5_restGangs 1 = .ok (.istore_n 1, 1) := by decide +kernel
theorem dX5_restGangs_2 : decode cX5_restGangs 2 = .ok (.iload_n 1, 1) := by decide +kernel
theorem dX5_restGangs_3 : decode cX5_restGangs 3 = .ok (.aload_n 0, 1) := by decide +kernel
theorem dX5_restGangs_4 : decode cX5_restGangs 4 = .ok (.getfield 19, 3) := by decide +kernel
theorem dX5_restGangs_7 : decode cX5_restGangs 7 = .ok (.invokevirtual 32, 3) := by decide +kernel
theorem dX5_restGangs_10 : decode cX5_restGangs 10 = .ok (.if_icmp .ge 38, 3) := by decide +kernel
theorem dX5_restGangs_13 : decode cX5_restGangs 13 = .ok (.aload_n 0, 1) := by decide +kernel
theorem dX5_restGangs_14 : decode cX5_restGangs 14 = .ok (.getfield 19, 3) := by decide +kernel
theorem dX5_restGangs_17 : decode cX5_restGangs 17 = .ok (.iload_n 1, 1) := by decide +kernel
theorem dX5_restGangs_18 : decode cX5_restGangs 18 = .ok (.invokevirtual 62, 3) := by decide +kernel
theorem dX5_restGangs_21 : decode cX5_restGangs 21 = .ok (.checkcast 71, 3) := by decide +kernel
theorem dX5_restGangs_24 : decode cX5_restGangs 24 = .ok (.astore_n 2, 1) := by decide +kernel
theorem dX5_restGangs_25 : decode cX5_restGangs 25 = .ok (.aload_n 2, 1) := by decide +kernel
theorem dX5_restGangs_26 : decode cX5_restGangs 26 = .ok (.getfield 161, 3) := by decide +kernel
theorem dX5_restGangs_29 : decode cX5_restGangs 29 = .ok (.ifCond .le 13, 3) := by decide +kernel
theorem dX5_restGangs_32 : decode cX5_restGangs 32 = .ok (.aload_n 2, 1) := by decide +kernel
theorem dX5_restGangs_33 : decode cX5_restGangs 33 = .ok (.dup, 1) := by decide +kernel
theorem dX5_restGangs_34 : decode cX5_restGangs 34 = .ok (.getfield 161, 3) := by decide +kernel
theorem dX5_restGangs_37 : decode cX5_restGangs 37 = .ok (.iconst 1, 1) := by decide +kernel
theorem dX5_restGangs_38 : decode cX5_restGangs 38 = .ok (.isub, 1) := by decide +kernel
theorem dX5_restGangs_39 : decode cX5_restGangs 39 = .ok (.putfield 161, 3) := by decide +kernel
theorem dX5_restGangs_42 : decode cX5_restGangs 42 = .ok (.iinc 1 1, 3) := by decide +kernel
theorem dX5_restGangs_45 : decode cX5_restGangs 45 = .ok (.goto (-43), 3) := by decide +kernel
theorem dX5_restGangs_48 : decode cX5_restGangs 48 = .ok (.return_, 1) := by decide +kernel
set_option maxRecDepth 20000 in
theorem ggX5_takeBuoys_X5_countFaring : GoodIn wsX5_takeBuoys wsX5_countFaring := goodIn_r _ [8, 1, 2, 3, 9, 10, 11, 12, 13, 14, 15, 16, 17, 18, 19, 20, 21, 22, 23, 24, 25, 26, 27, 28, 29, 30, 31, 32, 33, 34, 35, 36, 37, 38, 39, 40, 41, 42, 43, 44, 45] (by decide +kernel) (by decide +kernel)
set_option maxRecDepth 20000 in
theorem gX5_takeBuoys_X5_countFaring : GoodIn wsX5_takeBuoys (wsV RX5 76 RX5 yX5_countFaring wsX5_countFaring) := goodIn_app (goodIn_of _ (by decide +kernel)) ggX5_takeBuoys_X5_countFaring
set_option maxRecDepth 20000 in
theorem ggX5_takeBuoys_Jx4a65c_size_8abf5 : GoodIn wsX5_takeBuoys wsJx4a65c_size_8abf5 := goodIn_r _ [13, 14, 43, 44, 45] (by decide +kernel) (by decide +kernel)
set_option maxRecDepth 20000 in
theorem gX5_takeBuoys_Jx4a65c_size_8abf5 : GoodIn wsX5_takeBuoys (wsV RX5 32 RJx4a65c yJx4a65c_size_8abf5 wsJx4a65c_size_8abf5) := goodIn_app (goodIn_of _ (by decide +kernel)) ggX5_takeBuoys_Jx4a65c_size_8abf5
set_option maxRecDepth 20000 in
theorem ggX5_takeBuoys_Jx4a65c_get_915e3 : GoodIn wsX5_takeBuoys wsJx4a65c_get_915e3 := goodIn_r _ [18, 14, 19, 20, 21, 22, 23, 24, 25, 26, 27, 28, 29, 12, 30, 31, 43, 44, 45] (by decide +kernel) (by decide +kernel)
set_option maxRecDepth 20000 in
theorem gX5_takeBuoys_Jx4a65c_get_915e3 : GoodIn wsX5_takeBuoys (wsV RX5 62 RJx4a65c yJx4a65c_get_915e3 wsJx4a65c_get_915e3) := goodIn_app (goodIn_of _ (by decide +kernel)) ggX5_takeBuoys_Jx4a65c_get_915e3
theorem dX5_takeBuoys_0 : decode cX5_takeBuoys 0 = .ok (.aload_n 0, 1) := by decide +kernel
theorem dX5_takeBuoys_1 : decode cX5_takeBuoys 1 = .ok (.iconst 1, 1) := by decide +kernel
theorem dX5_takeBuoys_2 : decode cX5_takeBuoys 2 = .ok (.invokevirtual 76, 3) := by decide +kernel
theorem dX5_takeBuoys_5 : decode cX5_takeBuoys 5 = .ok (.istore_n 1, 1) := by decide +kernel
theorem dX5_takeBuoys_6 : decode cX5_takeBuoys 6 = .ok (.iconst 0, 1) := by decide +kernel
theorem dX5_takeBuoys_7 : decode cX5_takeBuoys 7 = .ok (.istore_n 2, 1) := by decide +kernel
theorem dX5_takeBuoys_8 : decode cX5_takeBuoys 8 = .ok (.iload_n 2, 1) := by decide +kernel
theorem dX5_takeBuoys_9 : decode cX5_takeBuoys 9 = .ok (.aload_n 0, 1) := by decide +kernel
theorem dX5_takeBuoys_10 : decode cX5_takeBuoys 10 = .ok (.getfield 25, 3) := by decide +kernel
theorem dX5_takeBuoys_13 : decode cX5_takeBuoys 13 = .ok (.invokevirtual 32, 3) := by decide +kernel
theorem dX5_takeBuoys_16 : decode cX5_takeBuoys 16 = .ok (.if_icmp .ge 41, 3) := by decide +kernel
theorem dX5_takeBuoys_19 : decode cX5_takeBuoys 19 = .ok (.iload_n 1, 1) := by decide +kernel
theorem dX5_takeBuoys_20 : decode cX5_takeBuoys 20 = .ok (.iconst 2, 1) := by decide +kernel
theorem dX5_takeBuoys_21 : decode cX5_takeBuoys 21 = .ok (.if_icmp .ge 36, 3) := by decide +kernel
theorem dX5_takeBuoys_24 : decode cX5_takeBuoys 24 = .ok (.aload_n 0, 1) := by decide +kernel
theorem dX5_takeBuoys_25 : decode cX5_takeBuoys 25 = .ok (.getfield 25, 3) := by decide +kernel
theorem dX5_takeBuoys_28 : decode cX5_takeBuoys 28 = .ok (.iload_n 2, 1) := by decide +kernel
theorem dX5_takeBuoys_29 : decode cX5_takeBuoys 29 = .ok (.invokevirtual 62, 3) := by decide +kernel
theorem dX5_takeBuoys_32 : decode cX5_takeBuoys 32 = .ok (.checkcast 82, 3) := by decide +kernel
theorem dX5_takeBuoys_35 : decode cX5_takeBuoys 35 = .ok (.astore_n 3, 1) := by decide +kernel
theorem dX5_takeBuoys_36 : decode cX5_takeBuoys 36 = .ok (.aload_n 3, 1) := by decide +kernel
theorem dX5_takeBuoys_37 : decode cX5_takeBuoys 37 = .ok (.getfield 164, 3) := by decide +kernel
theorem dX5_takeBuoys_40 : decode cX5_takeBuoys 40 = .ok (.ifCond .ne 11, 3) := by decide +kernel
theorem dX5_takeBuoys_43 : decode cX5_takeBuoys 43 = .ok (.aload_n 3, 1) := by decide +kernel
theorem dX5_takeBuoys_44 : decode cX5_takeBuoys 44 = .ok (.iconst 1, 1) := by decide +kernel
theorem dX5_takeBuoys_45 : decode cX5_takeBuoys 45 = .ok (.putfield 164, 3) := by decide +kernel
theorem dX5_takeBuoys_48 : decode cX5_takeBuoys 48 = .ok (.iinc 1 1, 3) := by decide +kernel
theorem dX5_takeBuoys_51 : decode cX5_takeBuoys 51 = .ok (.iinc 2 1, 3) := by decide +kernel
theorem dX5_takeBuoys_54 : decode cX5_takeBuoys 54 = .ok (.goto (-46), 3) := by decide +kernel
theorem dX5_takeBuoys_57 : decode cX5_takeBuoys 57 = .ok (.return_, 1) := by decide +kernel
set_option maxRecDepth 20000 in
theorem ggX5_workLighters_Jx4a65c_size_8abf5 : GoodIn wsX5_workLighters wsJx4a65c_size_8abf5 := goodIn_r _ [10, 11, 106, 107, 108] (by decide +kernel) (by decide +kernel)
set_option maxRecDepth 20000 in
theorem gX5_workLighters_Jx4a65c_size_8abf5 : GoodIn wsX5_workLighters (wsV RX5 32 RJx4a65c yJx4a65c_size_8abf5 wsJx4a65c_size_8abf5) := goodIn_app (goodIn_of _ (by decide +kernel)) ggX5_workLighters_Jx4a65c_size_8abf5
set_option maxRecDepth 20000 in
theorem ggX5_workLighters_Jx4a65c_get_915e3 : GoodIn wsX5_workLighters wsJx4a65c_get_915e3 := goodIn_r _ [15, 11, 16, 17, 18, 19, 20, 21, 22, 23, 24, 25, 26, 9, 27, 28, 106, 107, 108] (by decide +kernel) (by decide +kernel)
set_option maxRecDepth 20000 in
theorem gX5_workLighters_Jx4a65c_get_915e3 : GoodIn wsX5_workLighters (wsV RX5 62 RJx4a65c yJx4a65c_get_915e3 wsJx4a65c_get_915e3) := goodIn_app (goodIn_of _ (by decide +kernel)) ggX5_workLighters_Jx4a65c_get_915e3
set_option maxRecDepth 20000 in
theorem ggX5_workLighters_X5_work : GoodIn wsX5_workLighters wsX5_work := goodIn_r _ [33, 34, 35, 36, 32, 37, 38, 39, 40, 41, 4, 42, 43, 44, 45, 46, 47, 48, 49, 50, 51, 52, 53, 54, 55, 56, 57, 58, 59, 3, 60, 5, 61, 62, 63, 64, 65, 66, 67, 68, 69, 70, 71, 72, 73, 74, 75, 76, 77, 78, 79, 80, 81, 82, 83, 84, 92, 93, 94, 95, 96, 97, 98, 109, 99, 100, 101, 102, 103, 104, 105, 110, 111, 112, 113, 85, 86, 87, 88, 89, 90, 91] (by decide +kernel) (by decide +kernel)
set_option maxRecDepth 20000 in
theorem gX5_workLighters_X5_work : GoodIn wsX5_workLighters (wsV RX5 214 RX5 yX5_work wsX5_work) := goodIn_app (goodIn_of _ (by decide +kernel)) ggX5_workLighters_X5_work
theorem dX5_workLighters_0 : decode cX5_workLighters 0 = .ok (.iconst 0, 1) := by decide +kernel
theorem dX5_workLighters_1 : decode cX5_workLighters 1 = .ok (.istore_n 1, 1) := by decide +kernel
theorem dX5_workLighters_2 : decode cX5_workLighters 2 = .ok (.iload_n 1, 1) := by decide +kernel
theorem dX5_workLighters_3 : decode cX5_workLighters 3 = .ok (.aload_n 0, 1) := by decide +kernel
theorem dX5_workLighters_4 : decode cX5_workLighters 4 = .ok (.getfield 16, 3) := by decide +kernel
theorem dX5_workLighters_7 : decode cX5_workLighters 7 = .ok (.invokevirtual 32, 3) := by decide +kernel
theorem dX5_workLighters_10 : decode cX5_workLighters 10 = .ok (.if_icmp .ge 49, 3) := by decide +kernel
theorem dX5_workLighters_13 : decode cX5_workLighters 13 = .ok (.aload_n 0, 1) := by decide +kernel
theorem dX5_workLighters_14 : decode cX5_workLighters 14 = .ok (.getfield 16, 3) := by decide +kernel
theorem dX5_workLighters_17 : decode cX5_workLighters 17 = .ok (.iload_n 1, 1) := by decide +kernel
theorem dX5_workLighters_18 : decode cX5_workLighters 18 = .ok (.invokevirtual 62, 3) := by decide +kernel
theorem dX5_workLighters_21 : decode cX5_workLighters 21 = .ok (.checkcast 60, 3) := by decide +kernel
theorem dX5_workLighters_24 : decode cX5_workLighters 24 = .ok (.astore_n 2, 1) := by decide +kernel
theorem dX5_workLighters_25 : decode cX5_workLighters 25 = .ok (.aload_n 2, 1) := by decide +kernel
theorem dX5_workLighters_26 : decode cX5_workLighters 26 = .ok (.getfield 116, 3) := by decide +kernel
theorem dX5_workLighters_29 : decode cX5_workLighters 29 = .ok (.astore_n 3, 1) := by decide +kernel
theorem dX5_workLighters_30 : decode cX5_workLighters 30 = .ok (.aload_n 3, 1) := by decide +kernel
theorem dX5_workLighters_31 : decode cX5_workLighters 31 = .ok (.ifnull 22, 3) := by decide +kernel
theorem dX5_workLighters_34 : decode cX5_workLighters 34 = .ok (.aload_n 3, 1) := by decide +kernel
theorem dX5_workLighters_35 : decode cX5_workLighters 35 = .ok (.getfield 154, 3) := by decide +kernel
theorem dX5_workLighters_38 : decode cX5_workLighters 38 = .ok (.dup, 1) := by decide +kernel
theorem dX5_workLighters_39 : decode cX5_workLighters 39 = .ok (.getfield 211, 3) := by decide +kernel
theorem dX5_workLighters_42 : decode cX5_workLighters 42 = .ok (.iconst 1, 1) := by decide +kernel
theorem dX5_workLighters_43 : decode cX5_workLighters 43 = .ok (.iadd, 1) := by decide +kernel
theorem dX5_workLighters_44 : decode cX5_workLighters 44 = .ok (.putfield 211, 3) := by decide +kernel
theorem dX5_workLighters_47 : decode cX5_workLighters 47 = .ok (.aload_n 0, 1) := by decide +kernel
theorem dX5_workLighters_48 : decode cX5_workLighters 48 = .ok (.aload_n 2, 1) := by decide +kernel
theorem dX5_workLighters_49 : decode cX5_workLighters 49 = .ok (.aload_n 3, 1) := by decide +kernel
theorem dX5_workLighters_50 : decode cX5_workLighters 50 = .ok (.invokevirtual 214, 3) := by decide +kernel
theorem dX5_workLighters_53 : decode cX5_workLighters 53 = .ok (.iinc 1 1, 3) := by decide +kernel
theorem dX5_workLighters_56 : decode cX5_workLighters 56 = .ok (.goto (-54), 3) := by decide +kernel
theorem dX5_workLighters_59 : decode cX5_workLighters 59 = .ok (.return_, 1) := by decide +kernel
set_option maxRecDepth 20000 in
theorem ggX5_work_X5_workAtHulk : GoodIn wsX5_work wsX5_workAtHulk := goodIn_r _ [5, 6, 7, 8, 9, 10, 1, 11, 12, 13, 4, 14, 15, 16, 17, 18, 19, 20, 21, 22, 23, 24, 25, 26, 27, 28, 29, 30, 31, 32, 33, 34, 35, 36, 37, 56, 57, 58, 59, 60, 61, 62, 63, 64, 65, 66, 67, 68, 69, 70] (by decide +kernel) (by decide +kernel)
set_option maxRecDepth 20000 in
theorem gX5_work_X5_workAtHulk : GoodIn wsX5_work (va_wsS RX5 218 yX5_workAtHulk wsX5_workAtHulk) := goodIn_app (goodIn_of _ (by decide +kernel)) ggX5_work_X5_workAtHulk
set_option maxRecDepth 20000 in
theorem ggX5_work_X5_goOutward : GoodIn wsX5_work wsX5_goOutward := goodIn_r _ [40, 11, 1, 56, 57, 58, 59, 60, 61, 62] (by decide +kernel) (by decide +kernel)
set_option maxRecDepth 20000 in
theorem gX5_work_X5_goOutward : GoodIn wsX5_work (va_wsS RX5 221 yX5_goOutward wsX5_goOutward) := goodIn_app (goodIn_of _ (by decide +kernel)) ggX5_work_X5_goOutward
set_option maxRecDepth 20000 in
theorem ggX5_work_X5_workAtSteamer : GoodIn wsX5_work wsX5_workAtSteamer := goodIn_r _ [44, 6, 1, 45, 46, 47, 48, 49, 4, 50, 51, 15, 16, 17, 18, 10, 19, 52, 20, 21, 22, 23, 24, 25, 56, 57, 58, 59, 60, 61, 62, 64, 65, 71, 72, 73, 74, 75, 76, 77, 78, 79, 80, 81, 66, 67, 68, 69, 70] (by decide +kernel) (by decide +kernel)
set_option maxRecDepth 20000 in
theorem gX5_work_X5_workAtSteamer : GoodIn wsX5_work (wsV RX5 224 RX5 yX5_workAtSteamer wsX5_workAtSteamer) := goodIn_app (goodIn_of _ (by decide +kernel)) ggX5_work_X5_workAtSteamer
set_option maxRecDepth 20000 in
theorem ggX5_work_X5_comeHome : GoodIn wsX5_work wsX5_comeHome := goodIn_r _ [55, 1, 26, 27, 4, 28, 10, 29, 30, 31, 32, 33, 34, 23, 35, 36, 37, 56, 57, 58, 59, 60, 61, 62, 64, 65, 66, 67, 68, 69, 70] (by decide +kernel) (by decide +kernel)
set_option maxRecDepth 20000 in
theorem gX5_work_X5_comeHome : GoodIn wsX5_work (va_wsS RX5 227 yX5_comeHome wsX5_comeHome) := goodIn_app (goodIn_of _ (by decide +kernel)) ggX5_work_X5_comeHome
theorem dX5_work_0 : decode cX5_work 0 = .ok (.aload_n 1, 1) := by decide +kernel
theorem dX5_work_1 : decode cX5_work 1 = .ok (.getfield 148, 3) := by decide +kernel
theorem dX5_work_4 : decode cX5_work 4 = .ok (.tableswitch 52 0 2 #[28, 36, 43], 28) := by decide +kernel
theorem dX5_work_32 : decode cX5_work 32 = .ok (.aload_n 1, 1) := by decide +kernel
theorem dX5_work_33 : decode cX5_work 33 = .ok (.aload_n 2, 1) := by decide +kernel
theorem dX5_work_34 : decode cX5_work 34 = .ok (.invokestatic 218, 3) := by decide +kernel
theorem dX5_work_37 : decode cX5_work 37 = .ok (.goto 24, 3) := by decide +kernel
theorem dX5_work_40 : decode cX5_work 40 = .ok (.aload_n 1, 1) := by decide +kernel
theorem dX5_work_41 : decode cX5_work 41 = .ok (.invokestatic 221, 3) := by decide +kernel
theorem dX5_work_44 : decode cX5_work 44 = .ok (.goto 17, 3) := by decide +kernel
theorem dX5_work_47 : decode cX5_work 47 = .ok (.aload_n 0, 1) := by decide +kernel
theorem dX5_work_48 : decode cX5_work 48 = .ok (.aload_n 1, 1) := by decide +kernel
theorem dX5_work_49 : decode cX5_work 49 = .ok (.aload_n 2, 1) := by decide +kernel
theorem dX5_work_50 : decode cX5_work 50 = .ok (.invokevirtual 224, 3) := by decide +kernel
theorem dX5_work_53 : decode cX5_work 53 = .ok (.goto 8, 3) := by decide +kernel
theorem dX5_work_56 : decode cX5_work 56 = .ok (.aload_n 1, 1) := by decide +kernel
theorem dX5_work_57 : decode cX5_work 57 = .ok (.aload_n 2, 1) := by decide +kernel
theorem dX5_work_58 : decode cX5_work 58 = .ok (.invokestatic 227, 3) := by decide +kernel
theorem dX5_work_61 : decode cX5_work 61 = .ok (.return_, 1) := by decide +kernel
set_option maxRecDepth 20000 in
theorem ggX5_workAtHulk_X5_shovelFromHulk : GoodIn wsX5_workAtHulk wsX5_shovelFromHulk := goodIn_r _ [11, 3, 4, 2, 1, 12, 13, 14, 15, 16, 17, 18, 19, 20, 21, 22, 35, 36, 37, 38, 39, 40, 41, 42, 45, 46, 47, 48, 49] (by decide +kernel) (by decide +kernel)
set_option maxRecDepth 20000 in
theorem gX5_workAtHulk_X5_shovelFromHulk : GoodIn wsX5_workAtHulk (va_wsS RX5 233 yX5_shovelFromHulk wsX5_shovelFromHulk) := goodIn_app (goodIn_of _ (by decide +kernel)) ggX5_workAtHulk_X5_shovelFromHulk
set_option maxRecDepth 20000 in
theorem ggX5_workAtHulk_X5_endOrder : GoodIn wsX5_workAtHulk wsX5_endOrder := goodIn_r _ [25, 5, 26, 27, 28, 29, 30, 31, 20, 32, 33, 34, 43, 44, 35, 36, 37, 38, 39, 40, 41, 45, 46, 47, 48, 49] (by decide +kernel) (by decide +kernel)
set_option maxRecDepth 20000 in
theorem gX5_workAtHulk_X5_endOrder : GoodIn wsX5_workAtHulk (va_wsS RX5 240 yX5_endOrder wsX5_endOrder) := goodIn_app (goodIn_of _ (by decide +kernel)) ggX5_workAtHulk_X5_endOrder
theorem dX5_workAtHulk_0 : decode cX5_workAtHulk 0 = .ok (.aload_n 0, 1) := by decide +kernel
theorem dX5_workAtHulk_1 : decode cX5_workAtHulk 1 = .ok (.getfield 151, 3) := by decide +kernel
theorem dX5_workAtHulk_4 : decode cX5_workAtHulk 4 = .ok (.aload_n 0, 1) := by decide +kernel
theorem dX5_workAtHulk_5 : decode cX5_workAtHulk 5 = .ok (.getfield 230, 3) := by decide +kernel
theorem dX5_workAtHulk_8 : decode cX5_workAtHulk 8 = .ok (.if_icmp .ge 13, 3) := by decide +kernel
theorem dX5_workAtHulk_11 : decode cX5_workAtHulk 11 = .ok (.aload_n 0, 1) := by decide +kernel
theorem dX5_workAtHulk_12 : decode cX5_workAtHulk 12 = .ok (.getfield 128, 3) := by decide +kernel
theorem dX5_workAtHulk_15 : decode cX5_workAtHulk 15 = .ok (.getfield 136, 3) := by decide +kernel
theorem dX5_workAtHulk_18 : decode cX5_workAtHulk 18 = .ok (.ifCond .gt 7, 3) := by decide +kernel
theorem dX5_workAtHulk_21 : decode cX5_workAtHulk 21 = .ok (.iconst 1, 1) := by decide +kernel
theorem dX5_workAtHulk_22 : decode cX5_workAtHulk 22 = .ok (.goto 4, 3) := by decide +kernel
theorem dX5_workAtHulk_25 : decode cX5_workAtHulk 25 = .ok (.iconst 0, 1) := by decide +kernel
theorem dX5_workAtHulk_26 : decode cX5_workAtHulk 26 = .ok (.istore_n 2, 1) := by decide +kernel
theorem dX5_workAtHulk_27 : decode cX5_workAtHulk 27 = .ok (.iload_n 2, 1) := by decide +kernel
theorem dX5_workAtHulk_28 : decode cX5_workAtHulk 28 = .ok (.ifCond .ne 14, 3) := by decide +kernel
theorem dX5_workAtHulk_31 : decode cX5_workAtHulk 31 = .ok (.aload_n 0, 1) := by decide +kernel
theorem dX5_workAtHulk_32 : decode cX5_workAtHulk 32 = .ok (.aload_n 1, 1) := by decide +kernel
theorem dX5_workAtHulk_33 : decode cX5_workAtHulk 33 = .ok (.getfield 154, 3) := by decide +kernel
theorem dX5_workAtHulk_36 : decode cX5_workAtHulk 36 = .ok (.invokestatic 233, 3) := by decide +kernel
theorem dX5_workAtHulk_39 : decode cX5_workAtHulk 39 = .ok (.goto 28, 3) := by decide +kernel
theorem dX5_workAtHulk_42 : decode cX5_workAtHulk 42 = .ok (.aload_n 0, 1) := by decide +kernel
theorem dX5_workAtHulk_43 : decode cX5_workAtHulk 43 = .ok (.getfield 151, 3) := by decide +kernel
theorem dX5_workAtHulk_46 : decode cX5_workAtHulk 46 = .ok (.ifCond .le 16, 3) := by decide +kernel
theorem dX5_workAtHulk_49 : decode cX5_workAtHulk 49 = .ok (.aload_n 0, 1) := by decide +kernel
theorem dX5_workAtHulk_50 : decode cX5_workAtHulk 50 = .ok (.iconst 1, 1) := by decide +kernel
theorem dX5_workAtHulk_51 : decode cX5_workAtHulk 51 = .ok (.putfield 148, 3) := by decide +kernel
theorem dX5_workAtHulk_54 : decode cX5_workAtHulk 54 = .ok (.aload_n 0, 1) := by decide +kernel
theorem dX5_workAtHulk_55 : decode cX5_workAtHulk 55 = .ok (.iconst 0, 1) := by decide +kernel
theorem dX5_workAtHulk_56 : decode cX5_workAtHulk 56 = .ok (.putfield 237, 3) := by decide +kernel
theorem dX5_workAtHulk_59 : decode cX5_workAtHulk 59 = .ok (.goto 8, 3) := by decide +kernel
theorem dX5_workAtHulk_62 : decode cX5_workAtHulk 62 = .ok (.aload_n 0, 1) := by decide +kernel
theorem dX5_workAtHulk_63 : decode cX5_workAtHulk 63 = .ok (.aload_n 1, 1) := by decide +kernel
theorem dX5_workAtHulk_64 : decode cX5_workAtHulk 64 = .ok (.invokestatic 240, 3) := by decide +kernel
theorem dX5_workAtHulk_67 : decode cX5_workAtHulk 67 = .ok (.return_, 1) := by decide +kernel
set_option maxRecDepth 20000 in
theorem ggX5_shovelFromHulk_X0_strength : GoodIn wsX5_shovelFromHulk wsX0_strength := goodIn_r _ [14, 15, 24, 25, 26, 27, 28] (by decide +kernel) (by decide +kernel)
set_option maxRecDepth 20000 in
theorem gX5_shovelFromHulk_X0_strength : GoodIn wsX5_shovelFromHulk (wsV RX5 249 RX0 yX0_strength wsX0_strength) := goodIn_app (goodIn_of _ (by decide +kernel)) ggX5_shovelFromHulk_X0_strength
theorem dX5_shovelFromHulk_0 : decode cX5_shovelFromHulk 0 = .ok (.aload_n 0, 1) := by decide +kernel
theorem dX5_shovelFromHulk_1 : decode cX5_shovelFromHulk 1 = .ok (.getfield 128, 3) := by decide +kernel
theorem dX5_shovelFromHulk_4 : decode cX5_shovelFromHulk 4 = .ok (.getfield 136, 3) := by decide +kernel
theorem dX5_shovelFromHulk_7 : decode cX5_shovelFromHulk 7 = .ok (.aload_n 0, 1) := by decide +kernel
theorem dX5_shovelFromHulk_8 : decode cX5_shovelFromHulk 8 = .ok (.getfield 230, 3) := by decide +kernel
theorem dX5_shovelFromHulk_11 : decode cX5_shovelFromHulk 11 = .ok (.aload_n 0, 1) := by decide +kernel
theorem dX5_shovelFromHulk_12 : decode cX5_shovelFromHulk 12 = .ok (.getfield 151, 3) := by decide +kernel
theorem dX5_shovelFromHulk_15 : decode cX5_shovelFromHulk 15 = .ok (.isub, 1) := by decide +kernel
theorem dX5_shovelFromHulk_16 : decode cX5_shovelFromHulk 16 = .ok (.invokestatic 243, 3) := by decide +kernel
theorem dX5_shovelFromHulk_19 : decode cX5_shovelFromHulk 19 = .ok (.istore_n 2, 1) := by decide +kernel
theorem dX5_shovelFromHulk_20 : decode cX5_shovelFromHulk 20 = .ok (.aload_n 1, 1) := by decide +kernel
theorem dX5_shovelFromHulk_21 : decode cX5_shovelFromHulk 21 = .ok (.aload_n 0, 1) := by decide +kernel
theorem dX5_shovelFromHulk_22 : decode cX5_shovelFromHulk 22 = .ok (.getfield 132, 3) := by decide +kernel
theorem dX5_shovelFromHulk_25 : decode cX5_shovelFromHulk 25 = .ok (.invokevirtual 249, 3) := by decide +kernel
theorem dX5_shovelFromHulk_28 : decode cX5_shovelFromHulk 28 = .ok (.iload_n 2, 1) := by decide +kernel
theorem dX5_shovelFromHulk_29 : decode cX5_shovelFromHulk 29 = .ok (.invokestatic 243, 3) := by decide +kernel
theorem dX5_shovelFromHulk_32 : decode cX5_shovelFromHulk 32 = .ok (.istore_n 3, 1) := by decide +kernel
theorem dX5_shovelFromHulk_33 : decode cX5_shovelFromHulk 33 = .ok (.iload_n 3, 1) := by decide +kernel
theorem dX5_shovelFromHulk_34 : decode cX5_shovelFromHulk 34 = .ok (.bipush 50, 2) := by decide +kernel
theorem dX5_shovelFromHulk_36 : decode cX5_shovelFromHulk 36 = .ok (.idiv, 1) := by decide +kernel
theorem dX5_shovelFromHulk_37 : decode cX5_shovelFromHulk 37 = .ok (.istore 4, 2) := by decide +kernel
theorem dX5_shovelFromHulk_39 : decode cX5_shovelFromHulk 39 = .ok (.aload_n 0, 1) := by decide +kernel
theorem dX5_shovelFromHulk_40 : decode cX5_shovelFromHulk 40 = .ok (.getfield 128, 3) := by decide +kernel
theorem dX5_shovelFromHulk_43 : decode cX5_shovelFromHulk 43 = .ok (.dup, 1) := by decide +kernel
theorem dX5_shovelFromHulk_44 : decode cX5_shovelFromHulk 44 = .ok (.getfield 136, 3) := by decide +kernel
theorem dX5_shovelFromHulk_47 : decode cX5_shovelFromHulk 47 = .ok (.iload_n 3, 1) := by decide +kernel
theorem dX5_shovelFromHulk_48 : decode cX5_shovelFromHulk 48 = .ok (.isub, 1) := by decide +kernel
theorem dX5_shovelFromHulk_49 : decode cX5_shovelFromHulk 49 = .ok (.putfield 136, 3) := by decide +kernel
theorem dX5_shovelFromHulk_52 : decode cX5_shovelFromHulk 52 = .ok (.aload_n 0, 1) := by decide +kernel
theorem dX5_shovelFromHulk_53 : decode cX5_shovelFromHulk 53 = .ok (.dup, 1) := by decide +kernel
theorem dX5_shovelFromHulk_54 : decode cX5_shovelFromHulk 54 = .ok (.getfield 151, 3) := by decide +kernel
theorem dX5_shovelFromHulk_57 : decode cX5_shovelFromHulk 57 = .ok (.iload_n 3, 1) := by decide +kernel
theorem dX5_shovelFromHulk_58 : decode cX5_shovelFromHulk 58 = .ok (.iload 4, 2) := by decide +kernel
theorem dX5_shovelFromHulk_60 : decode cX5_shovelFromHulk 60 = .ok (.isub, 1) := by decide +kernel
theorem dX5_shovelFromHulk_61 : decode cX5_shovelFromHulk 61 = .ok (.iadd, 1) := by decide +kernel
theorem dX5_shovelFromHulk_62 : decode cX5_shovelFromHulk 62 = .ok (.putfield 151, 3) := by decide +kernel
theorem dX5_shovelFromHulk_65 : decode cX5_shovelFromHulk 65 = .ok (.aload_n 0, 1) := by decide +kernel
theorem dX5_shovelFromHulk_66 : decode cX5_shovelFromHulk 66 = .ok (.dup, 1) := by decide +kernel
theorem dX5_shovelFromHulk_67 : decode cX5_shovelFromHulk 67 = .ok (.getfield 132, 3) := by decide +kernel
theorem dX5_shovelFromHulk_70 : decode cX5_shovelFromHulk 70 = .ok (.iload 4, 2) := by decide +kernel
theorem dX5_shovelFromHulk_72 : decode cX5_shovelFromHulk 72 = .ok (.iadd, 1) := by decide +kernel
theorem dX5_shovelFromHulk_73 : decode cX5_shovelFromHulk 73 = .ok (.putfield 132, 3) := by decide +kernel
theorem dX5_shovelFromHulk_76 : decode cX5_shovelFromHulk 76 = .ok (.return_, 1) := by decide +kernel
theorem dX5_goOutward_0 : decode cX5_goOutward 0 = .ok (.aload_n 0, 1) := by decide +kernel
theorem dX5_goOutward_1 : decode cX5_goOutward 1 = .ok (.dup, 1) := by decide +kernel
theorem dX5_goOutward_2 : decode cX5_goOutward 2 = .ok (.getfield 237, 3) := by decide +kernel
theorem dX5_goOutward_5 : decode cX5_goOutward 5 = .ok (.iconst 1, 1) := by decide +kernel
theorem dX5_goOutward_6 : decode cX5_goOutward 6 = .ok (.iadd, 1) := by decide +kernel
theorem dX5_goOutward_7 : decode cX5_goOutward 7 = .ok (.putfield 237, 3) := by decide +kernel
theorem dX5_goOutward_10 : decode cX5_goOutward 10 = .ok (.aload_n 0, 1) := by decide +kernel
theorem dX5_goOutward_11 : decode cX5_goOutward 11 = .ok (.getfield 237, 3) := by decide +kernel
theorem dX5_goOutward_14 : decode cX5_goOutward 14 = .ok (.iconst 2, 1) := by decide +kernel
theorem dX5_goOutward_15 : decode cX5_goOutward 15 = .ok (.if_icmp .lt 8, 3) := by decide +kernel
theorem dX5_goOutward_18 : decode cX5_goOutward 18 = .ok (.aload_n 0, 1) := by decide +kernel
theorem dX5_goOutward_19 : decode cX5_goOutward 19 = .ok (.iconst 2, 1) := by decide +kernel
theorem dX5_goOutward_20 : decode cX5_goOutward 20 = .ok (.putfield 148, 3) := by decide +kernel
theorem dX5_goOutward_23 : decode cX5_goOutward 23 = .ok (.return_, 1) := by decide +kernel
set_option maxRecDepth 20000 in
theorem ggX5_workAtSteamer_X5_shovelIntoSteamer : GoodIn wsX5_workAtSteamer wsX5_shovelIntoSteamer := goodIn_r _ [9, 3, 1, 10, 11, 12, 13, 14, 15, 16, 17, 18, 19, 20, 21, 22, 23, 31, 32, 24, 25, 26, 27, 28, 29, 30, 33, 34, 35, 36, 37, 38, 39, 40, 41, 42, 43, 44, 45, 46, 47, 48] (by decide +kernel) (by decide +kernel)
set_option maxRecDepth 20000 in
theorem gX5_workAtSteamer_X5_shovelIntoSteamer : GoodIn wsX5_workAtSteamer (wsV RX5 256 RX5 yX5_shovelIntoSteamer wsX5_shovelIntoSteamer) := goodIn_app (goodIn_of _ (by decide +kernel)) ggX5_workAtSteamer_X5_shovelIntoSteamer
theorem dX5_workAtSteamer_0 : decode cX5_workAtSteamer 0 = .ok (.aload_n 1, 1) := by decide +kernel
theorem dX5_workAtSteamer_1 : decode cX5_workAtSteamer 1 = .ok (.getfield 151, 3) := by decide +kernel
theorem dX5_workAtSteamer_4 : decode cX5_workAtSteamer 4 = .ok (.ifCond .gt 11, 3) := by decide +kernel
theorem dX5_workAtSteamer_7 : decode cX5_workAtSteamer 7 = .ok (.aload_n 1, 1) := by decide +kernel
theorem dX5_workAtSteamer_8 : decode cX5_workAtSteamer 8 = .ok (.iconst 3, 1) := by decide +kernel
theorem dX5_workAtSteamer_9 : decode cX5_workAtSteamer 9 = .ok (.putfield 148, 3) := by decide +kernel
theorem dX5_workAtSteamer_12 : decode cX5_workAtSteamer 12 = .ok (.goto 20, 3) := by decide +kernel
theorem dX5_workAtSteamer_15 : decode cX5_workAtSteamer 15 = .ok (.aload_n 2, 1) := by decide +kernel
theorem dX5_workAtSteamer_16 : decode cX5_workAtSteamer 16 = .ok (.getfield 252, 3) := by decide +kernel
theorem dX5_workAtSteamer_19 : decode cX5_workAtSteamer 19 = .ok (.getfield 164, 3) := by decide +kernel
theorem dX5_workAtSteamer_22 : decode cX5_workAtSteamer 22 = .ok (.iconst 1, 1) := by decide +kernel
theorem dX5_workAtSteamer_23 : decode cX5_workAtSteamer 23 = .ok (.if_icmp .ne 9, 3) := by decide +kernel
theorem dX5_workAtSteamer_26 : decode cX5_workAtSteamer 26 = .ok (.aload_n 0, 1) := by decide +kernel
theorem dX5_workAtSteamer_27 : decode cX5_workAtSteamer 27 = .ok (.aload_n 1, 1) := by decide +kernel
theorem dX5_workAtSteamer_28 : decode cX5_workAtSteamer 28 = .ok (.aload_n 2, 1) := by decide +kernel
theorem dX5_workAtSteamer_29 : decode cX5_workAtSteamer 29 = .ok (.invokevirtual 256, 3) := by decide +kernel
theorem dX5_workAtSteamer_32 : decode cX5_workAtSteamer 32 = .ok (.return_, 1) := by decide +kernel
set_option maxRecDepth 20000 in
theorem ggX5_shovelIntoSteamer_X0_strength : GoodIn wsX5_shovelIntoSteamer wsX0_strength := goodIn_r _ [15, 16, 37, 38, 39, 40, 41] (by decide +kernel) (by decide +kernel)
set_option maxRecDepth 20000 in
theorem gX5_shovelIntoSteamer_X0_strength : GoodIn wsX5_shovelIntoSteamer (wsV RX5 249 RX0 yX0_strength wsX0_strength) := goodIn_app (goodIn_of _ (by decide +kernel)) ggX5_shovelIntoSteamer_X0_strength
theorem dX5_shovelIntoSteamer_0 : decode cX5_shovelIntoSteamer 0 = .ok (.aload_n 2, 1) := by decide +kernel
theorem dX5_shovelIntoSteamer_1 : decode cX5_shovelIntoSteamer 1 = .ok (.getfield 252, 3) := by decide +kernel
theorem dX5_shovelIntoSteamer_4 : decode cX5_shovelIntoSteamer 4 = .ok (.astore_n 3, 1) := by decide +kernel
theorem dX5_shovelIntoSteamer_5 : decode cX5_shovelIntoSteamer 5 = .ok (.aload_n 1, 1) := by decide +kernel
theorem dX5_shovelIntoSteamer_6 : decode cX5_shovelIntoSteamer 6 = .ok (.getfield 151, 3) := by decide +kernel
theorem dX5_shovelIntoSteamer_9 : decode cX5_shovelIntoSteamer 9 = .ok (.aload_n 3, 1) := by decide +kernel
theorem dX5_shovelIntoSteamer_10 : decode cX5_shovelIntoSteamer 10 = .ok (.getfield 167, 3) := by decide +kernel
theorem dX5_shovelIntoSteamer_13 : decode cX5_shovelIntoSteamer 13 = .ok (.invokestatic 243, 3) := by decide +kernel
theorem dX5_shovelIntoSteamer_16 : decode cX5_shovelIntoSteamer 16 = .ok (.istore 4, 2) := by decide +kernel
theorem dX5_shovelIntoSteamer_18 : decode cX5_shovelIntoSteamer 18 = .ok (.aload_n 2, 1) := by decide +kernel
theorem dX5_shovelIntoSteamer_19 : decode cX5_shovelIntoSteamer 19 = .ok (.getfield 154, 3) := by decide +kernel
theorem dX5_shovelIntoSteamer_22 : decode cX5_shovelIntoSteamer 22 = .ok (.aload_n 1, 1) := by decide +kernel
theorem dX5_shovelIntoSteamer_23 : decode cX5_shovelIntoSteamer 23 = .ok (.getfield 132, 3) := by decide +kernel
theorem dX5_shovelIntoSteamer_26 : decode cX5_shovelIntoSteamer 26 = .ok (.invokevirtual 249, 3) := by decide +kernel
theorem dX5_shovelIntoSteamer_29 : decode cX5_shovelIntoSteamer 29 = .ok (.iload 4, 2) := by decide +kernel
theorem dX5_shovelIntoSteamer_31 : decode cX5_shovelIntoSteamer 31 = .ok (.invokestatic 243, 3) := by decide +kernel
theorem dX5_shovelIntoSteamer_34 : decode cX5_shovelIntoSteamer 34 = .ok (.istore 5, 2) := by decide +kernel
theorem dX5_shovelIntoSteamer_36 : decode cX5_shovelIntoSteamer 36 = .ok (.iload 5, 2) := by decide +kernel
theorem dX5_shovelIntoSteamer_38 : decode cX5_shovelIntoSteamer 38 = .ok (.bipush 50, 2) := by decide +kernel
theorem dX5_shovelIntoSteamer_40 : decode cX5_shovelIntoSteamer 40 = .ok (.idiv, 1) := by decide +kernel
theorem dX5_shovelIntoSteamer_41 : decode cX5_shovelIntoSteamer 41 = .ok (.istore 6, 2) := by decide +kernel
theorem dX5_shovelIntoSteamer_43 : decode cX5_shovelIntoSteamer 43 = .ok (.aload_n 1, 1) := by decide +kernel
theorem dX5_shovelIntoSteamer_44 : decode cX5_shovelIntoSteamer 44 = .ok (.dup, 1) := by decide +kernel
theorem dX5_shovelIntoSteamer_45 : decode cX5_shovelIntoSteamer 45 = .ok (.getfield 151, 3) := by decide +kernel
theorem dX5_shovelIntoSteamer_48 : decode cX5_shovelIntoSteamer 48 = .ok (.iload 5, 2) := by decide +kernel
theorem dX5_shovelIntoSteamer_50 : decode cX5_shovelIntoSteamer 50 = .ok (.isub, 1) := by decide +kernel
theorem dX5_shovelIntoSteamer_51 : decode cX5_shovelIntoSteamer 51 = .ok (.putfield 151, 3) := by decide +kernel
theorem dX5_shovelIntoSteamer_54 : decode cX5_shovelIntoSteamer 54 = .ok (.aload_n 1, 1) := by decide +kernel
theorem dX5_shovelIntoSteamer_55 : decode cX5_shovelIntoSteamer 55 = .ok (.dup, 1) := by decide +kernel
theorem dX5_shovelIntoSteamer_56 : decode cX5_shovelIntoSteamer 56 = .ok (.getfield 132, 3) := by decide +kernel
theorem dX5_shovelIntoSteamer_59 : decode cX5_shovelIntoSteamer 59 = .ok (.iload 6, 2) := by decide +kernel
theorem dX5_shovelIntoSteamer_61 : decode cX5_shovelIntoSteamer 61 = .ok (.iadd, 1) := by decide +kernel
theorem dX5_shovelIntoSteamer_62 : decode cX5_shovelIntoSteamer 62 = .ok (.putfield 132, 3) := by decide +kernel
theorem dX5_shovelIntoSteamer_65 : decode cX5_shovelIntoSteamer 65 = .ok (.aload_n 3, 1) := by decide +kernel
theorem dX5_shovelIntoSteamer_66 : decode cX5_shovelIntoSteamer 66 = .ok (.dup, 1) := by decide +kernel
theorem dX5_shovelIntoSteamer_67 : decode cX5_shovelIntoSteamer 67 = .ok (.getfield 167, 3) := by decide +kernel
theorem dX5_shovelIntoSteamer_70 : decode cX5_shovelIntoSteamer 70 = .ok (.iload 5, 2) := by decide +kernel
theorem dX5_shovelIntoSteamer_72 : decode cX5_shovelIntoSteamer 72 = .ok (.iload 6, 2) := by decide +kernel
theorem dX5_shovelIntoSteamer_74 : decode cX5_shovelIntoSteamer 74 = .ok (.isub, 1) := by decide +kernel
theorem dX5_shovelIntoSteamer_75 : decode cX5_shovelIntoSteamer 75 = .ok (.isub, 1) := by decide +kernel
theorem dX5_shovelIntoSteamer_76 : decode cX5_shovelIntoSteamer 76 = .ok (.putfield 167, 3) := by decide +kernel
theorem dX5_shovelIntoSteamer_79 : decode cX5_shovelIntoSteamer 79 = .ok (.aload_n 0, 1) := by decide +kernel
theorem dX5_shovelIntoSteamer_80 : decode cX5_shovelIntoSteamer 80 = .ok (.dup, 1) := by decide +kernel
theorem dX5_shovelIntoSteamer_81 : decode cX5_shovelIntoSteamer 81 = .ok (.getfield 176, 3) := by decide +kernel
theorem dX5_shovelIntoSteamer_84 : decode cX5_shovelIntoSteamer 84 = .ok (.iload 5, 2) := by decide +kernel
theorem dX5_shovelIntoSteamer_86 : decode cX5_shovelIntoSteamer 86 = .ok (.iload 6, 2) := by decide +kernel
theorem dX5_shovelIntoSteamer_88 : decode cX5_shovelIntoSteamer 88 = .ok (.isub, 1) := by decide +kernel
theorem dX5_shovelIntoSteamer_89 : decode cX5_shovelIntoSteamer 89 = .ok (.iadd, 1) := by decide +kernel
theorem dX5_shovelIntoSteamer_90 : decode cX5_shovelIntoSteamer 90 = .ok (.putfield 176, 3) := by decide +kernel
theorem dX5_shovelIntoSteamer_93 : decode cX5_shovelIntoSteamer 93 = .ok (.return_, 1) := by decide +kernel
set_option maxRecDepth 20000 in
theorem ggX5_comeHome_X5_endOrder : GoodIn wsX5_comeHome wsX5_endOrder := goodIn_r _ [5, 6, 7, 8, 9, 10, 11, 12, 13, 14, 15, 16, 24, 25, 17, 18, 19, 20, 21, 22, 23, 26, 27, 28, 29, 30] (by decide +kernel) (by decide +kernel)
set_option maxRecDepth 20000 in
theorem gX5_comeHome_X5_endOrder : GoodIn wsX5_comeHome (va_wsS RX5 240 yX5_endOrder wsX5_endOrder) := goodIn_app (goodIn_of _ (by decide +kernel)) ggX5_comeHome_X5_endOrder
theorem dX5_comeHome_0 : decode cX5_comeHome 0 = .ok (.aload_n 0, 1) := by decide +kernel
theorem dX5_comeHome_1 : decode cX5_comeHome 1 = .ok (.iconst 0, 1) := by decide +kernel
theorem dX5_comeHome_2 : decode cX5_comeHome 2 = .ok (.putfield 148, 3) := by decide +kernel
theorem dX5_comeHome_5 : decode cX5_comeHome 5 = .ok (.aload_n 0, 1) := by decide +kernel
theorem dX5_comeHome_6 : decode cX5_comeHome 6 = .ok (.aload_n 1, 1) := by decide +kernel
theorem dX5_comeHome_7 : decode cX5_comeHome 7 = .ok (.invokestatic 240, 3) := by decide +kernel
theorem dX5_comeHome_10 : decode cX5_comeHome 10 = .ok (.return_, 1) := by decide +kernel
set_option maxRecDepth 20000 in
theorem ggX5_endOrder_X0_lieDown : GoodIn wsX5_endOrder wsX0_lieDown := goodIn_r _ [9, 10, 11, 21, 22, 23, 24, 25] (by decide +kernel) (by decide +kernel)
set_option maxRecDepth 20000 in
theorem gX5_endOrder_X0_lieDown : GoodIn wsX5_endOrder (wsV RX5 139 RX0 yX0_lieDown wsX0_lieDown) := goodIn_app (goodIn_of _ (by decide +kernel)) ggX5_endOrder_X0_lieDown
theorem dX5_endOrder_0 : decode cX5_endOrder 0 = .ok (.aload_n 1, 1) := by decide +kernel
theorem dX5_endOrder_1 : decode cX5_endOrder 1 = .ok (.getfield 154, 3) := by decide +kernel
theorem dX5_endOrder_4 : decode cX5_endOrder 4 = .ok (.astore_n 2, 1) := by decide +kernel
theorem dX5_endOrder_5 : decode cX5_endOrder 5 = .ok (.aload_n 0, 1) := by decide +kernel
theorem dX5_endOrder_6 : decode cX5_endOrder 6 = .ok (.aconst_null, 1) := by decide +kernel
theorem dX5_endOrder_7 : decode cX5_endOrder 7 = .ok (.putfield 116, 3) := by decide +kernel
theorem dX5_endOrder_10 : decode cX5_endOrder 10 = .ok (.aload_n 2, 1) := by decide +kernel
theorem dX5_endOrder_11 : decode cX5_endOrder 11 = .ok (.iconst 0, 1) := by decide +kernel
theorem dX5_endOrder_12 : decode cX5_endOrder 12 = .ok (.putfield 120, 3) := by decide +kernel
theorem dX5_endOrder_15 : decode cX5_endOrder 15 = .ok (.aload_n 2, 1) := by decide +kernel
theorem dX5_endOrder_16 : decode cX5_endOrder 16 = .ok (.getfield 211, 3) := by decide +kernel
theorem dX5_endOrder_19 : decode cX5_endOrder 19 = .ok (.bipush 8, 2) := by decide +kernel
theorem dX5_endOrder_21 : decode cX5_endOrder 21 = .ok (.if_icmp .lt 7, 3) := by decide +kernel
theorem dX5_endOrder_24 : decode cX5_endOrder 24 = .ok (.aload_n 2, 1) := by decide +kernel
theorem dX5_endOrder_25 : decode cX5_endOrder 25 = .ok (.invokevirtual 139, 3) := by decide +kernel
theorem dX5_endOrder_28 : decode cX5_endOrder 28 = .ok (.return_, 1) := by decide +kernel
set_option maxRecDepth 20000 in
theorem ggX5_letSteamersLeave_Jx4a65c_size_8abf5 : GoodIn wsX5_letSteamersLeave wsJx4a65c_size_8abf5 := goodIn_r _ [10, 11, 90, 91, 92] (by decide +kernel) (by decide +kernel)
set_option maxRecDepth 20000 in
theorem gX5_letSteamersLeave_Jx4a65c_size_8abf5 : GoodIn wsX5_letSteamersLeave (wsV RX5 32 RJx4a65c yJx4a65c_size_8abf5 wsJx4a65c_size_8abf5) := goodIn_app (goodIn_of _ (by decide +kernel)) ggX5_letSteamersLeave_Jx4a65c_size_8abf5
set_option maxRecDepth 20000 in
theorem ggX5_letSteamersLeave_Jx4a65c_get_915e3 : GoodIn wsX5_letSteamersLeave wsJx4a65c_get_915e3 := goodIn_r _ [15, 11, 16, 17, 18, 19, 20, 21, 22, 23, 24, 25, 26, 9, 27, 28, 90, 91, 92] (by decide +kernel) (by decide +kernel)
set_option maxRecDepth 20000 in
theorem gX5_letSteamersLeave_Jx4a65c_get_915e3 : GoodIn wsX5_letSteamersLeave (wsV RX5 62 RJx4a65c yJx4a65c_get_915e3 wsJx4a65c_get_915e3) := goodIn_app (goodIn_of _ (by decide +kernel)) ggX5_letSteamersLeave_Jx4a65c_get_915e3
set_option maxRecDepth 20000 in
theorem ggX5_letSteamersLeave_X5_recallLighters : GoodIn wsX5_letSteamersLeave wsX5_recallLighters := goodIn_r _ [33, 34, 35, 36, 37, 6, 7, 8, 9, 10, 11, 12, 13, 14, 15, 16, 17, 18, 19, 20, 21, 22, 23, 24, 25, 26, 27, 28, 38, 39, 32, 40, 41, 42, 43, 44, 45, 46, 47, 48, 49, 50, 51, 52, 53, 54, 79, 80, 81, 82, 83, 84, 85, 93, 94, 95, 96, 97, 98, 99, 100, 101, 90, 91, 92, 102, 103, 104, 105, 106] (by decide +kernel) (by decide +kernel)
set_option maxRecDepth 20000 in
theorem gX5_letSteamersLeave_X5_recallLighters : GoodIn wsX5_letSteamersLeave (wsV RX5 262 RX5 yX5_recallLighters wsX5_recallLighters) := goodIn_app (goodIn_of _ (by decide +kernel)) ggX5_letSteamersLeave_X5_recallLighters
set_option maxRecDepth 20000 in
theorem ggX5_letSteamersLeave_X5_forgetTheLeft : GoodIn wsX5_letSteamersLeave wsX5_forgetTheLeft := goodIn_r _ [58, 1, 2, 6, 7, 8, 9, 10, 11, 12, 13, 14, 15, 16, 17, 18, 19, 20, 21, 22, 23, 24, 25, 26, 27, 28, 59, 60, 61, 62, 63, 64, 65, 66, 67, 68, 69, 70, 71, 72, 73, 74, 75, 76, 77, 78, 79, 80, 81, 82, 83, 84, 85, 90, 91, 92, 86, 87, 88, 89] (by decide +kernel) (by decide +kernel)
set_option maxRecDepth 20000 in
theorem gX5_letSteamersLeave_X5_forgetTheLeft : GoodIn wsX5_letSteamersLeave (wsV RX5 266 RX5 yX5_forgetTheLeft wsX5_forgetTheLeft) := goodIn_app (goodIn_of _ (by decide +kernel)) ggX5_letSteamersLeave_X5_forgetTheLeft
theorem dX5_letSteamersLeave_0 : decode cX5_letSteamersLeave 0 = .ok (.iconst 0, 1) := by decide +kernel
theorem dX5_letSteamersLeave_1 : decode cX5_letSteamersLeave 1 = .ok (.istore_n 1, 1) := by decide +kernel
theorem dX5_letSteamersLeave_2 : decode cX5_letSteamersLeave 2 = .ok (.iconst 0, 1) := by decide +kernel
theorem dX5_letSteamersLeave_3 : decode cX5_letSteamersLeave 3 = .ok (.istore_n 2, 1) := by decide +kernel
theorem dX5_letSteamersLeave_4 : decode cX5_letSteamersLeave 4 = .ok (.iload_n 2, 1) := by decide +kernel
theorem dX5_letSteamersLeave_5 : decode cX5_letSteamersLeave 5 = .ok (.aload_n 0, 1) := by decide +kernel
theorem dX5_letSteamersLeave_6 : decode cX5_letSteamersLeave 6 = .ok (.getfield 25, 3) := by decide +kernel
theorem dX5_letSteamersLeave_9 : decode cX5_letSteamersLeave 9 = .ok (.invokevirtual 32, 3) := by decide +kernel
theorem dX5_letSteamersLeave_12 : decode cX5_letSteamersLeave 12 = .ok (.if_icmp .ge 69, 3) := by decide +kernel
theorem dX5_letSteamersLeave_15 : decode cX5_letSteamersLeave 15 = .ok (.aload_n 0, 1) := by decide +kernel
theorem dX5_letSteamersLeave_16 : decode cX5_letSteamersLeave 16 = .ok (.getfield 25, 3) := by decide +kernel
theorem dX5_letSteamersLeave_19 : decode cX5_letSteamersLeave 19 = .ok (.iload_n 2, 1) := by decide +kernel
theorem dX5_letSteamersLeave_20 : decode cX5_letSteamersLeave 20 = .ok (.invokevirtual 62, 3) := by decide +kernel
theorem dX5_letSteamersLeave_23 : decode cX5_letSteamersLeave 23 = .ok (.checkcast 82, 3) := by decide +kernel
theorem dX5_letSteamersLeave_26 : decode cX5_letSteamersLeave 26 = .ok (.astore_n 3, 1) := by decide +kernel
theorem dX5_letSteamersLeave_27 : decode cX5_letSteamersLeave 27 = .ok (.aload_n 3, 1) := by decide +kernel
theorem dX5_letSteamersLeave_28 : decode cX5_letSteamersLeave 28 = .ok (.dup, 1) := by decide +kernel
theorem dX5_letSteamersLeave_29 : decode cX5_letSteamersLeave 29 = .ok (.getfield 259, 3) := by decide +kernel
theorem dX5_letSteamersLeave_32 : decode cX5_letSteamersLeave 32 = .ok (.iconst 1, 1) := by decide +kernel
theorem dX5_letSteamersLeave_33 : decode cX5_letSteamersLeave 33 = .ok (.isub, 1) := by decide +kernel
theorem dX5_letSteamersLeave_34 : decode cX5_letSteamersLeave 34 = .ok (.putfield 259, 3) := by decide +kernel
theorem dX5_letSteamersLeave_37 : decode cX5_letSteamersLeave 37 = .ok (.aload_n 3, 1) := by decide +kernel
theorem dX5_letSteamersLeave_38 : decode cX5_letSteamersLeave 38 = .ok (.getfield 167, 3) := by decide +kernel
theorem dX5_letSteamersLeave_41 : decode cX5_letSteamersLeave 41 = .ok (.ifCond .le 10, 3) := by decide +kernel
theorem dX5_letSteamersLeave_44 : decode cX5_letSteamersLeave 44 = .ok (.aload_n 3, 1) := by decide +kernel
theorem dX5_letSteamersLeave_45 : decode cX5_letSteamersLeave 45 = .ok (.getfield 259, 3) := by decide +kernel
theorem dX5_letSteamersLeave_48 : decode cX5_letSteamersLeave 48 = .ok (.ifCond .gt 27, 3) := by decide +kernel
theorem dX5_letSteamersLeave_51 : decode cX5_letSteamersLeave 51 = .ok (.aload_n 3, 1) := by decide +kernel
theorem dX5_letSteamersLeave_52 : decode cX5_letSteamersLeave 52 = .ok (.aload_n 3, 1) := by decide +kernel
theorem dX5_letSteamersLeave_53 : decode cX5_letSteamersLeave 53 = .ok (.getfield 167, 3) := by decide +kernel
theorem dX5_letSteamersLeave_56 : decode cX5_letSteamersLeave 56 = .ok (.ifCond .gt 7, 3) := by decide +kernel
theorem dX5_letSteamersLeave_59 : decode cX5_letSteamersLeave 59 = .ok (.iconst 2, 1) := by decide +kernel
theorem dX5_letSteamersLeave_60 : decode cX5_letSteamersLeave 60 = .ok (.goto 4, 3) := by decide +kernel
theorem dX5_letSteamersLeave_63 : decode cX5_letSteamersLeave 63 = .ok (.iconst 3, 1) := by decide +kernel
theorem dX5_letSteamersLeave_64 : decode cX5_letSteamersLeave 64 = .ok (.putfield 164, 3) := by decide +kernel
theorem dX5_letSteamersLeave_67 : decode cX5_letSteamersLeave 67 = .ok (.aload_n 0, 1) := by decide +kernel
theorem dX5_letSteamersLeave_68 : decode cX5_letSteamersLeave 68 = .ok (.aload_n 3, 1) := by decide +kernel
theorem dX5_letSteamersLeave_69 : decode cX5_letSteamersLeave 69 = .ok (.invokevirtual 262, 3) := by decide +kernel
theorem dX5_letSteamersLeave_72 : decode cX5_letSteamersLeave 72 = .ok (.iinc 1 1, 3) := by decide +kernel
theorem dX5_letSteamersLeave_75 : decode cX5_letSteamersLeave 75 = .ok (.iinc 2 1, 3) := by decide +kernel
theorem dX5_letSteamersLeave_78 : decode cX5_letSteamersLeave 78 = .ok (.goto (-74), 3) := by decide +kernel
theorem dX5_letSteamersLeave_81 : decode cX5_letSteamersLeave 81 = .ok (.aload_n 0, 1) := by decide +kernel
theorem dX5_letSteamersLeave_82 : decode cX5_letSteamersLeave 82 = .ok (.invokevirtual 266, 3) := by decide +kernel
theorem dX5_letSteamersLeave_85 : decode cX5_letSteamersLeave 85 = .ok (.iload_n 1, 1) := by decide +kernel
theorem dX5_letSteamersLeave_86 : decode cX5_letSteamersLeave 86 = .ok (.ireturn, 1) := by decide +kernel
set_option maxRecDepth 20000 in
theorem ggX5_recallLighters_Jx4a65c_size_8abf5 : GoodIn wsX5_recallLighters wsJx4a65c_size_8abf5 := goodIn_r _ [9, 10, 62, 63, 64] (by decide +kernel) (by decide +kernel)
set_option maxRecDepth 20000 in
theorem gX5_recallLighters_Jx4a65c_size_8abf5 : GoodIn wsX5_recallLighters (wsV RX5 32 RJx4a65c yJx4a65c_size_8abf5 wsJx4a65c_size_8abf5) := goodIn_app (goodIn_of _ (by decide +kernel)) ggX5_recallLighters_Jx4a65c_size_8abf5
set_option maxRecDepth 20000 in
theorem ggX5_recallLighters_Jx4a65c_get_915e3 : GoodIn wsX5_recallLighters wsJx4a65c_get_915e3 := goodIn_r _ [14, 10, 15, 16, 17, 18, 19, 20, 21, 22, 23, 24, 25, 8, 26, 27, 62, 63, 64] (by decide +kernel) (by decide +kernel)
set_option maxRecDepth 20000 in
theorem gX5_recallLighters_Jx4a65c_get_915e3 : GoodIn wsX5_recallLighters (wsV RX5 62 RJx4a65c yJx4a65c_get_915e3 wsJx4a65c_get_915e3) := goodIn_app (goodIn_of _ (by decide +kernel)) ggX5_recallLighters_Jx4a65c_get_915e3
set_option maxRecDepth 20000 in
theorem ggX5_recallLighters_X5_recall : GoodIn wsX5_recallLighters wsX5_recall := goodIn_r _ [31, 32, 33, 34, 30, 35, 36, 3, 37, 38, 39, 40, 41, 42, 43, 44, 45, 53, 54, 55, 56, 57, 58, 59, 60, 61, 65, 66, 67, 68, 69] (by decide +kernel) (by decide +kernel)
set_option maxRecDepth 20000 in
theorem gX5_recallLighters_X5_recall : GoodIn wsX5_recallLighters (va_wsS RX5 269 yX5_recall wsX5_recall) := goodIn_app (goodIn_of _ (by decide +kernel)) ggX5_recallLighters_X5_recall
theorem dX5_recallLighters_0 : decode cX5_recallLighters 0 = .ok (.iconst 0, 1) := by decide +kernel
theorem dX5_recallLighters_1 : decode cX5_recallLighters 1 = .ok (.istore_n 2, 1) := by decide +kernel
theorem dX5_recallLighters_2 : decode cX5_recallLighters 2 = .ok (.iload_n 2, 1) := by decide +kernel
theorem dX5_recallLighters_3 : decode cX5_recallLighters 3 = .ok (.aload_n 0, 1) := by decide +kernel
theorem dX5_recallLighters_4 : decode cX5_recallLighters 4 = .ok (.getfield 16, 3) := by decide +kernel
theorem dX5_recallLighters_7 : decode cX5_recallLighters 7 = .ok (.invokevirtual 32, 3) := by decide +kernel
theorem dX5_recallLighters_10 : decode cX5_recallLighters 10 = .ok (.if_icmp .ge 47, 3) := by decide +kernel
theorem dX5_recallLighters_13 : decode cX5_recallLighters 13 = .ok (.aload_n 0, 1) := by decide +kernel
theorem dX5_recallLighters_14 : decode cX5_recallLighters 14 = .ok (.getfield 16, 3) := by decide +kernel
theorem dX5_recallLighters_17 : decode cX5_recallLighters 17 = .ok (.iload_n 2, 1) := by decide +kernel
theorem dX5_recallLighters_18 : decode cX5_recallLighters 18 = .ok (.invokevirtual 62, 3) := by decide +kernel
theorem dX5_recallLighters_21 : decode cX5_recallLighters 21 = .ok (.checkcast 60, 3) := by decide +kernel
theorem dX5_recallLighters_24 : decode cX5_recallLighters 24 = .ok (.astore_n 3, 1) := by decide +kernel
theorem dX5_recallLighters_25 : decode cX5_recallLighters 25 = .ok (.aload_n 3, 1) := by decide +kernel
theorem dX5_recallLighters_26 : decode cX5_recallLighters 26 = .ok (.getfield 116, 3) := by decide +kernel
theorem dX5_recallLighters_29 : decode cX5_recallLighters 29 = .ok (.astore 4, 2) := by decide +kernel
theorem dX5_recallLighters_31 : decode cX5_recallLighters 31 = .ok (.aload 4, 2) := by decide +kernel
theorem dX5_recallLighters_33 : decode cX5_recallLighters 33 = .ok (.ifnull 18, 3) := by decide +kernel
theorem dX5_recallLighters_36 : decode cX5_recallLighters 36 = .ok (.aload 4, 2) := by decide +kernel
theorem dX5_recallLighters_38 : decode cX5_recallLighters 38 = .ok (.getfield 252, 3) := by decide +kernel
theorem dX5_recallLighters_41 : decode cX5_recallLighters 41 = .ok (.aload_n 1, 1) := by decide +kernel
theorem dX5_recallLighters_42 : decode cX5_recallLighters 42 = .ok (.if_acmp .ne 9, 3) := by decide +kernel
theorem dX5_recallLighters_45 : decode cX5_recallLighters 45 = .ok (.aload_n 3, 1) := by decide +kernel
theorem dX5_recallLighters_46 : decode cX5_recallLighters 46 = .ok (.aload 4, 2) := by decide +kernel
theorem dX5_recallLighters_48 : decode cX5_recallLighters 48 = .ok (.invokestatic 269, 3) := by decide +kernel
theorem dX5_recallLighters_51 : decode cX5_recallLighters 51 = .ok (.iinc 2 1, 3) := by decide +kernel
theorem dX5_recallLighters_54 : decode cX5_recallLighters 54 = .ok (.goto (-52), 3) := by decide +kernel
theorem dX5_recallLighters_57 : decode cX5_recallLighters 57 = .ok (.return_, 1) := by decide +kernel
set_option maxRecDepth 20000 in
theorem ggX5_recall_X5_endOrder : GoodIn wsX5_recall wsX5_endOrder := goodIn_r _ [5, 6, 7, 8, 9, 10, 11, 12, 13, 14, 15, 16, 24, 25, 17, 18, 19, 20, 21, 22, 23, 26, 27, 28, 29, 30] (by decide +kernel) (by decide +kernel)
set_option maxRecDepth 20000 in
theorem gX5_recall_X5_endOrder : GoodIn wsX5_recall (va_wsS RX5 240 yX5_endOrder wsX5_endOrder) := goodIn_app (goodIn_of _ (by decide +kernel)) ggX5_recall_X5_endOrder
theorem dX5_recall_0 : decode cX5_recall 0 = .ok (.aload_n 0, 1) := by decide +kernel
theorem dX5_recall_1 : decode cX5_recall 1 = .ok (.getfield 148, 3) := by decide +kernel
theorem dX5_recall_4 : decode cX5_recall 4 = .ok (.ifCond .ne 11, 3) := by decide +kernel
theorem dX5_recall_7 : decode cX5_recall 7 = .ok (.aload_n 0, 1) := by decide +kernel
theorem dX5_recall_8 : decode cX5_recall 8 = .ok (.aload_n 1, 1) := by decide +kernel
theorem dX5_recall_9 : decode cX5_recall 9 = .ok (.invokestatic 240, 3) := by decide +kernel
theorem dX5_recall_12 : decode cX5_recall 12 = .ok (.goto 8, 3) := by decide +kernel
theorem dX5_recall_15 : decode cX5_recall 15 = .ok (.aload_n 0, 1) := by decide +kernel
theorem dX5_recall_16 : decode cX5_recall 16 = .ok (.iconst 3, 1) := by decide +kernel
theorem dX5_recall_17 : decode cX5_recall 17 = .ok (.putfield 148, 3) := by decide +kernel
theorem dX5_recall_20 : decode cX5_recall 20 = .ok (.return_, 1) := by decide +kernel
set_option maxRecDepth 20000 in
theorem ggX5_forgetTheLeft_Jx4a65c_size_8abf5 : GoodIn wsX5_forgetTheLeft wsJx4a65c_size_8abf5 := goodIn_r _ [7, 8, 53, 54, 55] (by decide +kernel) (by decide +kernel)
set_option maxRecDepth 20000 in
theorem gX5_forgetTheLeft_Jx4a65c_size_8abf5 : GoodIn wsX5_forgetTheLeft (wsV RX5 32 RJx4a65c yJx4a65c_size_8abf5 wsJx4a65c_size_8abf5) := goodIn_app (goodIn_of _ (by decide +kernel)) ggX5_forgetTheLeft_Jx4a65c_size_8abf5
set_option maxRecDepth 20000 in
theorem ggX5_forgetTheLeft_Jx4a65c_get_915e3 : GoodIn wsX5_forgetTheLeft wsJx4a65c_get_915e3 := goodIn_r _ [12, 8, 13, 14, 15, 16, 17, 18, 19, 20, 21, 22, 23, 6, 24, 25, 53, 54, 55] (by decide +kernel) (by decide +kernel)
set_option maxRecDepth 20000 in
theorem gX5_forgetTheLeft_Jx4a65c_get_915e3 : GoodIn wsX5_forgetTheLeft (wsV RX5 62 RJx4a65c yJx4a65c_get_915e3 wsJx4a65c_get_915e3) := goodIn_app (goodIn_of _ (by decide +kernel)) ggX5_forgetTheLeft_Jx4a65c_get_915e3
set_option maxRecDepth 20000 in
theorem ggX5_forgetTheLeft_X4_hasLeft : GoodIn wsX5_forgetTheLeft wsX4_hasLeft := goodIn_r _ [30, 31, 56, 57, 58, 59] (by decide +kernel) (by decide +kernel)
set_option maxRecDepth 20000 in
theorem gX5_forgetTheLeft_X4_hasLeft : GoodIn wsX5_forgetTheLeft (wsV RX5 106 RX4 yX4_hasLeft wsX4_hasLeft) := goodIn_app (goodIn_of _ (by decide +kernel)) ggX5_forgetTheLeft_X4_hasLeft
set_option maxRecDepth 20000 in
theorem ggX5_forgetTheLeft_Jx4a65c_remove_915e3 : GoodIn wsX5_forgetTheLeft wsJx4a65c_remove_915e3 := goodIn_r _ [35, 8, 25, 13, 14, 15, 16, 17, 18, 19, 20, 36, 37, 38, 6, 39, 40, 41, 42, 43, 44, 45, 53, 54, 55] (by decide +kernel) (by decide +kernel)
set_option maxRecDepth 20000 in
theorem gX5_forgetTheLeft_Jx4a65c_remove_915e3 : GoodIn wsX5_forgetTheLeft (wsV RX5 272 RJx4a65c yJx4a65c_remove_915e3 wsJx4a65c_remove_915e3) := goodIn_app (goodIn_of _ (by decide +kernel)) ggX5_forgetTheLeft_Jx4a65c_remove_915e3
theorem dX5_forgetTheLeft_0 : decode cX5_forgetTheLeft 0 = .ok (.aload_n 0, 1) := by decide +kernel
theorem dX5_forgetTheLeft_1 : decode cX5_forgetTheLeft 1 = .ok (.getfield 25, 3) := by decide +kernel
theorem dX5_forgetTheLeft_4 : decode cX5_forgetTheLeft 4 = .ok (.invokevirtual 32, 3) := by decide +kernel
theorem dX5_forgetTheLeft_7 : decode cX5_forgetTheLeft 7 = .ok (.iconst 1, 1) := by decide +kernel
theorem dX5_forgetTheLeft_8 : decode cX5_forgetTheLeft 8 = .ok (.isub, 1) := by decide +kernel
theorem dX5_forgetTheLeft_9 : decode cX5_forgetTheLeft 9 = .ok (.istore_n 1, 1) := by decide +kernel
theorem dX5_forgetTheLeft_10 : decode cX5_forgetTheLeft 10 = .ok (.iload_n 1, 1) := by decide +kernel
theorem dX5_forgetTheLeft_11 : decode cX5_forgetTheLeft 11 = .ok (.ifCond .lt 35, 3) := by decide +kernel
theorem dX5_forgetTheLeft_14 : decode cX5_forgetTheLeft 14 = .ok (.aload_n 0, 1) := by decide +kernel
theorem dX5_forgetTheLeft_15 : decode cX5_forgetTheLeft 15 = .ok (.getfield 25, 3) := by decide +kernel
theorem dX5_forgetTheLeft_18 : decode cX5_forgetTheLeft 18 = .ok (.iload_n 1, 1) := by decide +kernel
theorem dX5_forgetTheLeft_19 : decode cX5_forgetTheLeft 19 = .ok (.invokevirtual 62, 3) := by decide +kernel
theorem dX5_forgetTheLeft_22 : decode cX5_forgetTheLeft 22 = .ok (.checkcast 82, 3) := by decide +kernel
theorem dX5_forgetTheLeft_25 : decode cX5_forgetTheLeft 25 = .ok (.invokevirtual 106, 3) := by decide +kernel
theorem dX5_forgetTheLeft_28 : decode cX5_forgetTheLeft 28 = .ok (.ifCond .eq 12, 3) := by decide +kernel
theorem dX5_forgetTheLeft_31 : decode cX5_forgetTheLeft 31 = .ok (.aload_n 0, 1) := by decide +kernel
theorem dX5_forgetTheLeft_32 : decode cX5_forgetTheLeft 32 = .ok (.getfield 25, 3) := by decide +kernel
theorem dX5_forgetTheLeft_35 : decode cX5_forgetTheLeft 35 = .ok (.iload_n 1, 1) := by decide +kernel
theorem dX5_forgetTheLeft_36 : decode cX5_forgetTheLeft 36 = .ok (.invokevirtual 272, 3) := by decide +kernel
theorem dX5_forgetTheLeft_39 : decode cX5_forgetTheLeft 39 = .ok (.pop, 1) := by decide +kernel
theorem dX5_forgetTheLeft_40 : decode cX5_forgetTheLeft 40 = .ok (.iinc 1 (-1), 3) := by decide +kernel
theorem dX5_forgetTheLeft_43 : decode cX5_forgetTheLeft 43 = .ok (.goto (-33), 3) := by decide +kernel
theorem dX5_forgetTheLeft_46 : decode cX5_forgetTheLeft 46 = .ok (.return_, 1) := by decide +kernel
