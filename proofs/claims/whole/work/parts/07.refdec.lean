theorem dX6_init_0 : decode cX6_init 0 = .ok (.aload_n 0, 1) := by decide +kernel
theorem dX6_init_1 : decode cX6_init 1 = .ok (.invokespecial 1, 3) := by decide +kernel
theorem dX6_init_4 : decode cX6_init 4 = .ok (.aload_n 0, 1) := by decide +kernel
theorem dX6_init_5 : decode cX6_init 5 = .ok (.iconst 3, 1) := by decide +kernel
theorem dX6_init_6 : decode cX6_init 6 = .ok (.newarray .int, 2) := by decide +kernel
theorem dX6_init_8 : decode cX6_init 8 = .ok (.putfield 7, 3) := by decide +kernel
theorem dX6_init_11 : decode cX6_init 11 = .ok (.aload_n 0, 1) := by decide +kernel
theorem dX6_init_12 : decode cX6_init 12 = .ok (.bipush 6, 2) := by decide +kernel
theorem dX6_init_14 : decode cX6_init 14 = .ok (.newarray .int, 2) := by decide +kernel
theorem dX6_init_16 : decode cX6_init 16 = .ok (.putfield 13, 3) := by decide +kernel
theorem dX6_init_19 : decode cX6_init 19 = .ok (.aload_n 0, 1) := by decide +kernel
theorem dX6_init_20 : decode cX6_init 20 = .ok (.bipush 6, 2) := by decide +kernel
theorem dX6_init_22 : decode cX6_init 22 = .ok (.newarray .int, 2) := by decide +kernel
theorem dX6_init_24 : decode cX6_init 24 = .ok (.putfield 16, 3) := by decide +kernel
theorem dX6_init_27 : decode cX6_init 27 = .ok (.aload_n 0, 1) := by decide +kernel
theorem dX6_init_28 : decode cX6_init 28 = .ok (.bipush 6, 2) := by decide +kernel
theorem dX6_init_30 : decode cX6_init 30 = .ok (.newarray .int, 2) := by decide +kernel
theorem dX6_init_32 : decode cX6_init 32 = .ok (.putfield 19, 3) := by decide +kernel
theorem dX6_init_35 : decode cX6_init 35 = .ok (.aload_n 0, 1) := by decide +kernel
theorem dX6_init_36 : decode cX6_init 36 = .ok (.bipush 6, 2) := by decide +kernel
theorem dX6_init_38 : decode cX6_init 38 = .ok (.newarray .int, 2) := by decide +kernel
theorem dX6_init_40 : decode cX6_init 40 = .ok (.putfield 22, 3) := by decide +kernel
theorem dX6_init_43 : decode cX6_init 43 = .ok (.aload_n 0, 1) := by decide +kernel
theorem dX6_init_44 : decode cX6_init 44 = .ok (.bipush 6, 2) := by decide +kernel
theorem dX6_init_46 : decode cX6_init 46 = .ok (.newarray .int, 2) := by decide +kernel
theorem dX6_init_48 : decode cX6_init 48 = .ok (.putfield 25, 3) := by decide +kernel
theorem dX6_init_51 : decode cX6_init 51 = .ok (.aload_n 0, 1) := by decide +kernel
theorem dX6_init_52 : decode cX6_init 52 = .ok (.bipush 6, 2) := by decide +kernel
theorem dX6_init_54 : decode cX6_init 54 = .ok (.newarray .int, 2) := by decide +kernel
theorem dX6_init_56 : decode cX6_init 56 = .ok (.putfield 28, 3) := by decide +kernel
theorem dX6_init_59 : decode cX6_init 59 = .ok (.aload_n 0, 1) := by decide +kernel
theorem dX6_init_60 : decode cX6_init 60 = .ok (.bipush 6, 2) := by decide +kernel
theorem dX6_init_62 : decode cX6_init 62 = .ok (.newarray .int, 2) := by decide +kernel
theorem dX6_init_64 : decode cX6_init 64 = .ok (.putfield 31, 3) := by decide +kernel
theorem dX6_init_67 : decode cX6_init 67 = .ok (.aload_n 0, 1) := by decide +kernel
theorem dX6_init_68 : decode cX6_init 68 = .ok (.bipush 6, 2) := by decide +kernel
theorem dX6_init_70 : decode cX6_init 70 = .ok (.newarray .int, 2) := by decide +kernel
theorem dX6_init_72 : decode cX6_init 72 = .ok (.putfield 34, 3) := by decide +kernel
theorem dX6_init_75 : decode cX6_init 75 = .ok (.aload_n 0, 1) := by decide +kernel
theorem dX6_init_76 : decode cX6_init 76 = .ok (.bipush 6, 2) := by decide +kernel
theorem dX6_init_78 : decode cX6_init 78 = .ok (.newarray .int, 2) := by decide +kernel
theorem dX6_init_80 : decode cX6_init 80 = .ok (.putfield 37, 3) := by decide +kernel
theorem dX6_init_83 : decode cX6_init 83 = .ok (.aload_n 0, 1) := by decide +kernel
theorem dX6_init_84 : decode cX6_init 84 = .ok (.bipush 6, 2) := by decide +kernel
theorem dX6_init_86 : decode cX6_init 86 = .ok (.newarray .int, 2) := by decide +kernel
theorem dX6_init_88 : decode cX6_init 88 = .ok (.putfield 40, 3) := by decide +kernel
theorem dX6_init_91 : decode cX6_init 91 = .ok (.aload_n 0, 1) := by decide +kernel
theorem dX6_init_92 : decode cX6_init 92 = .ok (.bipush 6, 2) := by decide +kernel
theorem dX6_init_94 : decode cX6_init 94 = .ok (.newarray .int, 2) := by decide +kernel
theorem dX6_init_96 : decode cX6_init 96 = .ok (.putfield 43, 3) := by decide +kernel
theorem dX6_init_99 : decode cX6_init 99 = .ok (.aload_n 0, 1) := by decide +kernel
theorem dX6_init_100 : decode cX6_init 100 = .ok (.sipush 600, 3) := by decide +kernel
theorem dX6_init_103 : decode cX6_init 103 = .ok (.newarray .int, 2) := by decide +kernel
theorem dX6_init_105 : decode cX6_init 105 = .ok (.putfield 46, 3) := by decide +kernel
theorem dX6_init_108 : decode cX6_init 108 = .ok (.aload_n 0, 1) := by decide +kernel
theorem dX6_init_109 : decode cX6_init 109 = .ok (.sipush 600, 3) := by decide +kernel
theorem dX6_init_112 : decode cX6_init 112 = .ok (.newarray .int, 2) := by decide +kernel
theorem dX6_init_114 : decode cX6_init 114 = .ok (.putfield 49, 3) := by decide +kernel
theorem dX6_init_117 : decode cX6_init 117 = .ok (.aload_n 0, 1) := by decide +kernel
theorem dX6_init_118 : decode cX6_init 118 = .ok (.sipush 600, 3) := by decide +kernel
theorem dX6_init_121 : decode cX6_init 121 = .ok (.newarray .int, 2) := by decide +kernel
theorem dX6_init_123 : decode cX6_init 123 = .ok (.putfield 52, 3) := by decide +kernel
theorem dX6_init_126 : decode cX6_init 126 = .ok (.return_, 1) := by decide +kernel
theorem dX6_thrown_0 : decode cX6_thrown 0 = .ok (.aload_n 0, 1) := by decide +kernel
theorem dX6_thrown_1 : decode cX6_thrown 1 = .ok (.getfield 55, 3) := by decide +kernel
theorem dX6_thrown_4 : decode cX6_thrown 4 = .ok (.ireturn, 1) := by decide +kernel
theorem dX6_is_0 : decode cX6_is 0 = .ok (.iload_n 0, 1) := by decide +kernel
theorem dX6_is_1 : decode cX6_is 1 = .ok (.ifCond .lt 12, 3) := by decide +kernel
theorem dX6_is_4 : decode cX6_is 4 = .ok (.iload_n 0, 1) := by decide +kernel
theorem dX6_is_5 : decode cX6_is 5 = .ok (.iload_n 1, 1) := by decide +kernel
theorem dX6_is_6 : decode cX6_is 6 = .ok (.if_icmp .ge 7, 3) := by decide +kernel
theorem dX6_is_9 : decode cX6_is 9 = .ok (.iconst 1, 1) := by decide +kernel
theorem dX6_is_10 : decode cX6_is 10 = .ok (.goto 4, 3) := by decide +kernel
theorem dX6_is_13 : decode cX6_is 13 = .ok (.iconst 0, 1) := by decide +kernel
theorem dX6_is_14 : decode cX6_is 14 = .ok (.ireturn, 1) := by decide +kernel
theorem dX6_least_0 : decode cX6_least 0 = .ok (.iload_n 0, 1) := by decide +kernel
theorem dX6_least_1 : decode cX6_least 1 = .ok (.iload_n 1, 1) := by decide +kernel
theorem dX6_least_2 : decode cX6_least 2 = .ok (.if_icmp .ge 7, 3) := by decide +kernel
theorem dX6_least_5 : decode cX6_least 5 = .ok (.iload_n 0, 1) := by decide +kernel
theorem dX6_least_6 : decode cX6_least 6 = .ok (.goto 4, 3) := by decide +kernel
theorem dX6_least_9 : decode cX6_least 9 = .ok (.iload_n 1, 1) := by decide +kernel
theorem dX6_least_10 : decode cX6_least 10 = .ok (.ireturn, 1) := by decide +kernel
theorem dX6_many_0 : decode cX6_many 0 = .ok (.iconst 0, 1) := by decide +kernel
theorem dX6_many_1 : decode cX6_many 1 = .ok (.istore_n 2, 1) := by decide +kernel
theorem dX6_many_2 : decode cX6_many 2 = .ok (.iconst 0, 1) := by decide +kernel
theorem dX6_many_3 : decode cX6_many 3 = .ok (.istore_n 3, 1) := by decide +kernel
theorem dX6_many_4 : decode cX6_many 4 = .ok (.iload_n 3, 1) := by decide +kernel
theorem dX6_many_5 : decode cX6_many 5 = .ok (.aload_n 0, 1) := by decide +kernel
theorem dX6_many_6 : decode cX6_many 6 = .ok (.getfield 59, 3) := by decide +kernel
theorem dX6_many_9 : decode cX6_many 9 = .ok (.if_icmp .ge 27, 3) := by decide +kernel
theorem dX6_many_12 : decode cX6_many 12 = .ok (.iload_n 2, 1) := by decide +kernel
theorem dX6_many_13 : decode cX6_many 13 = .ok (.aload_n 0, 1) := by decide +kernel
theorem dX6_many_14 : decode cX6_many 14 = .ok (.getfield 52, 3) := by decide +kernel
theorem dX6_many_17 : decode cX6_many 17 = .ok (.iload_n 3, 1) := by decide +kernel
theorem dX6_many_18 : decode cX6_many 18 = .ok (.iaload, 1) := by decide +kernel
theorem dX6_many_19 : decode cX6_many 19 = .ok (.iload_n 1, 1) := by decide +kernel
theorem dX6_many_20 : decode cX6_many 20 = .ok (.if_icmp .ne 7, 3) := by decide +kernel
theorem dX6_many_23 : decode cX6_many 23 = .ok (.iconst 1, 1) := by decide +kernel
theorem dX6_many_24 : decode cX6_many 24 = .ok (.goto 4, 3) := by decide +kernel
theorem dX6_many_27 : decode cX6_many 27 = .ok (.iconst 0, 1) := by decide +kernel
theorem dX6_many_28 : decode cX6_many 28 = .ok (.iadd, 1) := by decide +kernel
theorem dX6_many_29 : decode cX6_many 29 = .ok (.istore_n 2, 1) := by decide +kernel
theorem dX6_many_30 : decode cX6_many 30 = .ok (.iinc 3 1, 3) := by decide +kernel
theorem dX6_many_33 : decode cX6_many 33 = .ok (.goto (-29), 3) := by decide +kernel
theorem dX6_many_36 : decode cX6_many 36 = .ok (.iload_n 2, 1) := by decide +kernel
theorem dX6_many_37 : decode cX6_many 37 = .ok (.ireturn, 1) := by decide +kernel
theorem dX6_hulk_0 : decode cX6_hulk 0 = .ok (.aload_n 0, 1) := by decide +kernel
theorem dX6_hulk_1 : decode cX6_hulk 1 = .ok (.iload_n 1, 1) := by decide +kernel
theorem dX6_hulk_2 : decode cX6_hulk 2 = .ok (.ifCond .lt 10, 3) := by decide +kernel
theorem dX6_hulk_5 : decode cX6_hulk 5 = .ok (.iload_n 1, 1) := by decide +kernel
theorem dX6_hulk_6 : decode cX6_hulk 6 = .ok (.sipush 20000, 3) := by decide +kernel
theorem dX6_hulk_9 : decode cX6_hulk 9 = .ok (.if_icmp .le 7, 3) := by decide +kernel
theorem dX6_hulk_12 : decode cX6_hulk 12 = .ok (.iconst 1, 1) := by decide +kernel
theorem dX6_hulk_13 : decode cX6_hulk 13 = .ok (.goto 16, 3) := by decide +kernel
theorem dX6_hulk_16 : decode cX6_hulk 16 = .ok (.aload_n 0, 1) := by decide +kernel
theorem dX6_hulk_17 : decode cX6_hulk 17 = .ok (.getfield 62, 3) := by decide +kernel
theorem dX6_hulk_20 : decode cX6_hulk 20 = .ok (.iconst 3, 1) := by decide +kernel
theorem dX6_hulk_21 : decode cX6_hulk 21 = .ok (.if_icmp .ne 7, 3) := by decide +kernel
theorem dX6_hulk_24 : decode cX6_hulk 24 = .ok (.iconst 2, 1) := by decide +kernel
theorem dX6_hulk_25 : decode cX6_hulk 25 = .ok (.goto 4, 3) := by decide +kernel
theorem dX6_hulk_28 : decode cX6_hulk 28 = .ok (.iconst 0, 1) := by decide +kernel
theorem dX6_hulk_29 : decode cX6_hulk 29 = .ok (.putfield 55, 3) := by decide +kernel
theorem dX6_hulk_32 : decode cX6_hulk 32 = .ok (.aload_n 0, 1) := by decide +kernel
theorem dX6_hulk_33 : decode cX6_hulk 33 = .ok (.getfield 55, 3) := by decide +kernel
theorem dX6_hulk_36 : decode cX6_hulk 36 = .ok (.ifCond .eq 5, 3) := by decide +kernel
theorem dX6_hulk_39 : decode cX6_hulk 39 = .ok (.iconst 0, 1) := by decide +kernel
theorem dX6_hulk_40 : decode cX6_hulk 40 = .ok (.ireturn, 1) := by decide +kernel
theorem dX6_hulk_41 : decode cX6_hulk 41 = .ok (.aload_n 0, 1) := by decide +kernel
theorem dX6_hulk_42 : decode cX6_hulk 42 = .ok (.getfield 7, 3) := by decide +kernel
theorem dX6_hulk_45 : decode cX6_hulk 45 = .ok (.aload_n 0, 1) := by decide +kernel
theorem dX6_hulk_46 : decode cX6_hulk 46 = .ok (.getfield 62, 3) := by decide +kernel
theorem dX6_hulk_49 : decode cX6_hulk 49 = .ok (.iload_n 1, 1) := by decide +kernel
theorem dX6_hulk_50 : decode cX6_hulk 50 = .ok (.iastore, 1) := by decide +kernel
theorem dX6_hulk_51 : decode cX6_hulk 51 = .ok (.aload_n 0, 1) := by decide +kernel
theorem dX6_hulk_52 : decode cX6_hulk 52 = .ok (.dup, 1) := by decide +kernel
theorem dX6_hulk_53 : decode cX6_hulk 53 = .ok (.getfield 62, 3) := by decide +kernel
theorem dX6_hulk_56 : decode cX6_hulk 56 = .ok (.iconst 1, 1) := by decide +kernel
theorem dX6_hulk_57 : decode cX6_hulk 57 = .ok (.iadd, 1) := by decide +kernel
theorem dX6_hulk_58 : decode cX6_hulk 58 = .ok (.putfield 62, 3) := by decide +kernel
theorem dX6_hulk_61 : decode cX6_hulk 61 = .ok (.aload_n 0, 1) := by decide +kernel
theorem dX6_hulk_62 : decode cX6_hulk 62 = .ok (.getfield 62, 3) := by decide +kernel
theorem dX6_hulk_65 : decode cX6_hulk 65 = .ok (.iconst 1, 1) := by decide +kernel
theorem dX6_hulk_66 : decode cX6_hulk 66 = .ok (.isub, 1) := by decide +kernel
theorem dX6_hulk_67 : decode cX6_hulk 67 = .ok (.ireturn, 1) := by decide +kernel
theorem dX6_lighter_0 : decode cX6_lighter 0 = .ok (.aload_n 0, 1) := by decide +kernel
theorem dX6_lighter_1 : decode cX6_lighter 1 = .ok (.iload_n 1, 1) := by decide +kernel
theorem dX6_lighter_2 : decode cX6_lighter 2 = .ok (.bipush 20, 2) := by decide +kernel
theorem dX6_lighter_4 : decode cX6_lighter 4 = .ok (.if_icmp .lt 10, 3) := by decide +kernel
theorem dX6_lighter_7 : decode cX6_lighter 7 = .ok (.iload_n 1, 1) := by decide +kernel
theorem dX6_lighter_8 : decode cX6_lighter 8 = .ok (.sipush 500, 3) := by decide +kernel
theorem dX6_lighter_11 : decode cX6_lighter 11 = .ok (.if_icmp .le 7, 3) := by decide +kernel
theorem dX6_lighter_14 : decode cX6_lighter 14 = .ok (.iconst 1, 1) := by decide +kernel
theorem dX6_lighter_15 : decode cX6_lighter 15 = .ok (.goto 24, 3) := by decide +kernel
theorem dX6_lighter_18 : decode cX6_lighter 18 = .ok (.aload_n 0, 1) := by decide +kernel
theorem dX6_lighter_19 : decode cX6_lighter 19 = .ok (.getfield 65, 3) := by decide +kernel
theorem dX6_lighter_22 : decode cX6_lighter 22 = .ok (.bipush 6, 2) := by decide +kernel
theorem dX6_lighter_24 : decode cX6_lighter 24 = .ok (.if_icmp .eq 10, 3) := by decide +kernel
theorem dX6_lighter_27 : decode cX6_lighter 27 = .ok (.aload_n 0, 1) := by decide +kernel
theorem dX6_lighter_28 : decode cX6_lighter 28 = .ok (.getfield 62, 3) := by decide +kernel
theorem dX6_lighter_31 : decode cX6_lighter 31 = .ok (.ifCond .ne 7, 3) := by decide +kernel
theorem dX6_lighter_34 : decode cX6_lighter 34 = .ok (.iconst 2, 1) := by decide +kernel
theorem dX6_lighter_35 : decode cX6_lighter 35 = .ok (.goto 4, 3) := by decide +kernel
theorem dX6_lighter_38 : decode cX6_lighter 38 = .ok (.iconst 0, 1) := by decide +kernel
theorem dX6_lighter_39 : decode cX6_lighter 39 = .ok (.putfield 55, 3) := by decide +kernel
theorem dX6_lighter_42 : decode cX6_lighter 42 = .ok (.aload_n 0, 1) := by decide +kernel
theorem dX6_lighter_43 : decode cX6_lighter 43 = .ok (.getfield 55, 3) := by decide +kernel
theorem dX6_lighter_46 : decode cX6_lighter 46 = .ok (.ifCond .eq 5, 3) := by decide +kernel
theorem dX6_lighter_49 : decode cX6_lighter 49 = .ok (.iconst 0, 1) := by decide +kernel
theorem dX6_lighter_50 : decode cX6_lighter 50 = .ok (.ireturn, 1) := by decide +kernel
theorem dX6_lighter_51 : decode cX6_lighter 51 = .ok (.aload_n 0, 1) := by decide +kernel
theorem dX6_lighter_52 : decode cX6_lighter 52 = .ok (.getfield 13, 3) := by decide +kernel
theorem dX6_lighter_55 : decode cX6_lighter 55 = .ok (.aload_n 0, 1) := by decide +kernel
theorem dX6_lighter_56 : decode cX6_lighter 56 = .ok (.getfield 65, 3) := by decide +kernel
theorem dX6_lighter_59 : decode cX6_lighter 59 = .ok (.iload_n 1, 1) := by decide +kernel
theorem dX6_lighter_60 : decode cX6_lighter 60 = .ok (.iastore, 1) := by decide +kernel
theorem dX6_lighter_61 : decode cX6_lighter 61 = .ok (.aload_n 0, 1) := by decide +kernel
theorem dX6_lighter_62 : decode cX6_lighter 62 = .ok (.getfield 28, 3) := by decide +kernel
theorem dX6_lighter_65 : decode cX6_lighter 65 = .ok (.aload_n 0, 1) := by decide +kernel
theorem dX6_lighter_66 : decode cX6_lighter 66 = .ok (.getfield 65, 3) := by decide +kernel
theorem dX6_lighter_69 : decode cX6_lighter 69 = .ok (.iconst (-1), 1) := by decide +kernel
theorem dX6_lighter_70 : decode cX6_lighter 70 = .ok (.iastore, 1) := by decide +kernel
theorem dX6_lighter_71 : decode cX6_lighter 71 = .ok (.aload_n 0, 1) := by decide +kernel
theorem dX6_lighter_72 : decode cX6_lighter 72 = .ok (.dup, 1) := by decide +kernel
theorem dX6_lighter_73 : decode cX6_lighter 73 = .ok (.getfield 65, 3) := by decide +kernel
theorem dX6_lighter_76 : decode cX6_lighter 76 = .ok (.iconst 1, 1) := by decide +kernel
theorem dX6_lighter_77 : decode cX6_lighter 77 = .ok (.iadd, 1) := by decide +kernel
theorem dX6_lighter_78 : decode cX6_lighter 78 = .ok (.putfield 65, 3) := by decide +kernel
theorem dX6_lighter_81 : decode cX6_lighter 81 = .ok (.aload_n 0, 1) := by decide +kernel
theorem dX6_lighter_82 : decode cX6_lighter 82 = .ok (.getfield 65, 3) := by decide +kernel
theorem dX6_lighter_85 : decode cX6_lighter 85 = .ok (.iconst 1, 1) := by decide +kernel
theorem dX6_lighter_86 : decode cX6_lighter 86 = .ok (.isub, 1) := by decide +kernel
theorem dX6_lighter_87 : decode cX6_lighter 87 = .ok (.ireturn, 1) := by decide +kernel
theorem dX6_gang_0 : decode cX6_gang 0 = .ok (.aload_n 0, 1) := by decide +kernel
theorem dX6_gang_1 : decode cX6_gang 1 = .ok (.iload_n 1, 1) := by decide +kernel
theorem dX6_gang_2 : decode cX6_gang 2 = .ok (.iconst 1, 1) := by decide +kernel
theorem dX6_gang_3 : decode cX6_gang 3 = .ok (.if_icmp .lt 9, 3) := by decide +kernel
theorem dX6_gang_6 : decode cX6_gang 6 = .ok (.iload_n 1, 1) := by decide +kernel
theorem dX6_gang_7 : decode cX6_gang 7 = .ok (.bipush 20, 2) := by decide +kernel
theorem dX6_gang_9 : decode cX6_gang 9 = .ok (.if_icmp .le 7, 3) := by decide +kernel
theorem dX6_gang_12 : decode cX6_gang 12 = .ok (.iconst 1, 1) := by decide +kernel
theorem dX6_gang_13 : decode cX6_gang 13 = .ok (.goto 17, 3) := by decide +kernel
theorem dX6_gang_16 : decode cX6_gang 16 = .ok (.aload_n 0, 1) := by decide +kernel
theorem dX6_gang_17 : decode cX6_gang 17 = .ok (.getfield 68, 3) := by decide +kernel
theorem dX6_gang_20 : decode cX6_gang 20 = .ok (.bipush 6, 2) := by decide +kernel
theorem dX6_gang_22 : decode cX6_gang 22 = .ok (.if_icmp .ne 7, 3) := by decide +kernel
theorem dX6_gang_25 : decode cX6_gang 25 = .ok (.iconst 2, 1) := by decide +kernel
theorem dX6_gang_26 : decode cX6_gang 26 = .ok (.goto 4, 3) := by decide +kernel
theorem dX6_gang_29 : decode cX6_gang 29 = .ok (.iconst 0, 1) := by decide +kernel
theorem dX6_gang_30 : decode cX6_gang 30 = .ok (.putfield 55, 3) := by decide +kernel
theorem dX6_gang_33 : decode cX6_gang 33 = .ok (.aload_n 0, 1) := by decide +kernel
theorem dX6_gang_34 : decode cX6_gang 34 = .ok (.getfield 55, 3) := by decide +kernel
theorem dX6_gang_37 : decode cX6_gang 37 = .ok (.ifCond .eq 5, 3) := by decide +kernel
theorem dX6_gang_40 : decode cX6_gang 40 = .ok (.iconst 0, 1) := by decide +kernel
theorem dX6_gang_41 : decode cX6_gang 41 = .ok (.ireturn, 1) := by decide +kernel
theorem dX6_gang_42 : decode cX6_gang 42 = .ok (.aload_n 0, 1) := by decide +kernel
theorem dX6_gang_43 : decode cX6_gang 43 = .ok (.getfield 37, 3) := by decide +kernel
theorem dX6_gang_46 : decode cX6_gang 46 = .ok (.aload_n 0, 1) := by decide +kernel
theorem dX6_gang_47 : decode cX6_gang 47 = .ok (.getfield 68, 3) := by decide +kernel
theorem dX6_gang_50 : decode cX6_gang 50 = .ok (.iload_n 1, 1) := by decide +kernel
theorem dX6_gang_51 : decode cX6_gang 51 = .ok (.iastore, 1) := by decide +kernel
theorem dX6_gang_52 : decode cX6_gang 52 = .ok (.aload_n 0, 1) := by decide +kernel
theorem dX6_gang_53 : decode cX6_gang 53 = .ok (.dup, 1) := by decide +kernel
theorem dX6_gang_54 : decode cX6_gang 54 = .ok (.getfield 68, 3) := by decide +kernel
theorem dX6_gang_57 : decode cX6_gang 57 = .ok (.iconst 1, 1) := by decide +kernel
theorem dX6_gang_58 : decode cX6_gang 58 = .ok (.iadd, 1) := by decide +kernel
theorem dX6_gang_59 : decode cX6_gang 59 = .ok (.putfield 68, 3) := by decide +kernel
theorem dX6_gang_62 : decode cX6_gang 62 = .ok (.aload_n 0, 1) := by decide +kernel
theorem dX6_gang_63 : decode cX6_gang 63 = .ok (.getfield 68, 3) := by decide +kernel
theorem dX6_gang_66 : decode cX6_gang 66 = .ok (.iconst 1, 1) := by decide +kernel
theorem dX6_gang_67 : decode cX6_gang 67 = .ok (.isub, 1) := by decide +kernel
theorem dX6_gang_68 : decode cX6_gang 68 = .ok (.ireturn, 1) := by decide +kernel
set_option maxRecDepth 20000 in
theorem ggX6_steamer_X6_many : GoodIn wsX6_steamer wsX6_many := goodIn_r _ [10, 3, 11, 12, 13, 14, 15, 16, 17, 18, 19, 20, 21, 22, 23, 24, 25, 26, 27, 28, 29, 30, 31, 32, 33] (by decide +kernel) (by decide +kernel)
set_option maxRecDepth 20000 in
theorem gX6_steamer_X6_many : GoodIn wsX6_steamer (wsV RX6 71 RX6 yX6_many wsX6_many) := goodIn_app (goodIn_of _ (by decide +kernel)) ggX6_steamer_X6_many
theorem dX6_steamer_0 : decode cX6_steamer 0 = .ok (.aload_n 0, 1) := by decide +kernel
theorem dX6_steamer_1 : decode cX6_steamer 1 = .ok (.iload_n 1, 1) := by decide +kernel
theorem dX6_steamer_2 : decode cX6_steamer 2 = .ok (.iconst 1, 1) := by decide +kernel
theorem dX6_steamer_3 : decode cX6_steamer 3 = .ok (.if_icmp .lt 22, 3) := by decide +kernel
theorem dX6_steamer_6 : decode cX6_steamer 6 = .ok (.iload_n 1, 1) := by decide +kernel
theorem dX6_steamer_7 : decode cX6_steamer 7 = .ok (.sipush 9999, 3) := by decide +kernel
theorem dX6_steamer_10 : decode cX6_steamer 10 = .ok (.if_icmp .gt 15, 3) := by decide +kernel
theorem dX6_steamer_13 : decode cX6_steamer 13 = .ok (.iload_n 2, 1) := by decide +kernel
theorem dX6_steamer_14 : decode cX6_steamer 14 = .ok (.iconst 1, 1) := by decide +kernel
theorem dX6_steamer_15 : decode cX6_steamer 15 = .ok (.if_icmp .lt 10, 3) := by decide +kernel
theorem dX6_steamer_18 : decode cX6_steamer 18 = .ok (.iload_n 2, 1) := by decide +kernel
theorem dX6_steamer_19 : decode cX6_steamer 19 = .ok (.sipush 500, 3) := by decide +kernel
theorem dX6_steamer_22 : decode cX6_steamer 22 = .ok (.if_icmp .le 7, 3) := by decide +kernel
theorem dX6_steamer_25 : decode cX6_steamer 25 = .ok (.iconst 1, 1) := by decide +kernel
theorem dX6_steamer_26 : decode cX6_steamer 26 = .ok (.goto 18, 3) := by decide +kernel
theorem dX6_steamer_29 : decode cX6_steamer 29 = .ok (.aload_n 0, 1) := by decide +kernel
theorem dX6_steamer_30 : decode cX6_steamer 30 = .ok (.iconst 0, 1) := by decide +kernel
theorem dX6_steamer_31 : decode cX6_steamer 31 = .ok (.invokevirtual 71, 3) := by decide +kernel
theorem dX6_steamer_34 : decode cX6_steamer 34 = .ok (.bipush 8, 2) := by decide +kernel
theorem dX6_steamer_36 : decode cX6_steamer 36 = .ok (.if_icmp .ne 7, 3) := by decide +kernel
theorem dX6_steamer_39 : decode cX6_steamer 39 = .ok (.iconst 2, 1) := by decide +kernel
theorem dX6_steamer_40 : decode cX6_steamer 40 = .ok (.goto 4, 3) := by decide +kernel
theorem dX6_steamer_43 : decode cX6_steamer 43 = .ok (.iconst 0, 1) := by decide +kernel
theorem dX6_steamer_44 : decode cX6_steamer 44 = .ok (.putfield 55, 3) := by decide +kernel
theorem dX6_steamer_47 : decode cX6_steamer 47 = .ok (.aload_n 0, 1) := by decide +kernel
theorem dX6_steamer_48 : decode cX6_steamer 48 = .ok (.getfield 55, 3) := by decide +kernel
theorem dX6_steamer_51 : decode cX6_steamer 51 = .ok (.ifCond .eq 5, 3) := by decide +kernel
theorem dX6_steamer_54 : decode cX6_steamer 54 = .ok (.iconst 0, 1) := by decide +kernel
theorem dX6_steamer_55 : decode cX6_steamer 55 = .ok (.ireturn, 1) := by decide +kernel
theorem dX6_steamer_56 : decode cX6_steamer 56 = .ok (.aload_n 0, 1) := by decide +kernel
theorem dX6_steamer_57 : decode cX6_steamer 57 = .ok (.getfield 46, 3) := by decide +kernel
theorem dX6_steamer_60 : decode cX6_steamer 60 = .ok (.aload_n 0, 1) := by decide +kernel
theorem dX6_steamer_61 : decode cX6_steamer 61 = .ok (.getfield 59, 3) := by decide +kernel
theorem dX6_steamer_64 : decode cX6_steamer 64 = .ok (.iload_n 1, 1) := by decide +kernel
theorem dX6_steamer_65 : decode cX6_steamer 65 = .ok (.iastore, 1) := by decide +kernel
theorem dX6_steamer_66 : decode cX6_steamer 66 = .ok (.aload_n 0, 1) := by decide +kernel
theorem dX6_steamer_67 : decode cX6_steamer 67 = .ok (.getfield 49, 3) := by decide +kernel
theorem dX6_steamer_70 : decode cX6_steamer 70 = .ok (.aload_n 0, 1) := by decide +kernel
theorem dX6_steamer_71 : decode cX6_steamer 71 = .ok (.getfield 59, 3) := by decide +kernel
theorem dX6_steamer_74 : decode cX6_steamer 74 = .ok (.aload_n 0, 1) := by decide +kernel
theorem dX6_steamer_75 : decode cX6_steamer 75 = .ok (.getfield 75, 3) := by decide +kernel
theorem dX6_steamer_78 : decode cX6_steamer 78 = .ok (.iload_n 2, 1) := by decide +kernel
theorem dX6_steamer_79 : decode cX6_steamer 79 = .ok (.iadd, 1) := by decide +kernel
theorem dX6_steamer_80 : decode cX6_steamer 80 = .ok (.iastore, 1) := by decide +kernel
theorem dX6_steamer_81 : decode cX6_steamer 81 = .ok (.aload_n 0, 1) := by decide +kernel
theorem dX6_steamer_82 : decode cX6_steamer 82 = .ok (.dup, 1) := by decide +kernel
theorem dX6_steamer_83 : decode cX6_steamer 83 = .ok (.getfield 59, 3) := by decide +kernel
theorem dX6_steamer_86 : decode cX6_steamer 86 = .ok (.iconst 1, 1) := by decide +kernel
theorem dX6_steamer_87 : decode cX6_steamer 87 = .ok (.iadd, 1) := by decide +kernel
theorem dX6_steamer_88 : decode cX6_steamer 88 = .ok (.putfield 59, 3) := by decide +kernel
theorem dX6_steamer_91 : decode cX6_steamer 91 = .ok (.aload_n 0, 1) := by decide +kernel
theorem dX6_steamer_92 : decode cX6_steamer 92 = .ok (.getfield 59, 3) := by decide +kernel
theorem dX6_steamer_95 : decode cX6_steamer 95 = .ok (.iconst 1, 1) := by decide +kernel
theorem dX6_steamer_96 : decode cX6_steamer 96 = .ok (.isub, 1) := by decide +kernel
theorem dX6_steamer_97 : decode cX6_steamer 97 = .ok (.ireturn, 1) := by decide +kernel
theorem dX6_isBusy_0 : decode cX6_isBusy 0 = .ok (.aload_n 0, 1) := by decide +kernel
theorem dX6_isBusy_1 : decode cX6_isBusy 1 = .ok (.getfield 43, 3) := by decide +kernel
theorem dX6_isBusy_4 : decode cX6_isBusy 4 = .ok (.iload_n 1, 1) := by decide +kernel
theorem dX6_isBusy_5 : decode cX6_isBusy 5 = .ok (.iaload, 1) := by decide +kernel
theorem dX6_isBusy_6 : decode cX6_isBusy 6 = .ok (.ifCond .le 7, 3) := by decide +kernel
theorem dX6_isBusy_9 : decode cX6_isBusy 9 = .ok (.iconst 1, 1) := by decide +kernel
theorem dX6_isBusy_10 : decode cX6_isBusy 10 = .ok (.goto 4, 3) := by decide +kernel
theorem dX6_isBusy_13 : decode cX6_isBusy 13 = .ok (.iconst 0, 1) := by decide +kernel
theorem dX6_isBusy_14 : decode cX6_isBusy 14 = .ok (.istore_n 2, 1) := by decide +kernel
theorem dX6_isBusy_15 : decode cX6_isBusy 15 = .ok (.iconst 0, 1) := by decide +kernel
theorem dX6_isBusy_16 : decode cX6_isBusy 16 = .ok (.istore_n 3, 1) := by decide +kernel
theorem dX6_isBusy_17 : decode cX6_isBusy 17 = .ok (.iload_n 3, 1) := by decide +kernel
theorem dX6_isBusy_18 : decode cX6_isBusy 18 = .ok (.aload_n 0, 1) := by decide +kernel
theorem dX6_isBusy_19 : decode cX6_isBusy 19 = .ok (.getfield 65, 3) := by decide +kernel
theorem dX6_isBusy_22 : decode cX6_isBusy 22 = .ok (.if_icmp .ge 29, 3) := by decide +kernel
theorem dX6_isBusy_25 : decode cX6_isBusy 25 = .ok (.iload_n 2, 1) := by decide +kernel
theorem dX6_isBusy_26 : decode cX6_isBusy 26 = .ok (.ifCond .ne 13, 3) := by decide +kernel
theorem dX6_isBusy_29 : decode cX6_isBusy 29 = .ok (.aload_n 0, 1) := by decide +kernel
theorem dX6_isBusy_30 : decode cX6_isBusy 30 = .ok (.getfield 28, 3) := by decide +kernel
theorem dX6_isBusy_33 : decode cX6_isBusy 33 = .ok (.iload_n 3, 1) := by decide +kernel
theorem dX6_isBusy_34 : decode cX6_isBusy 34 = .ok (.iaload, 1) := by decide +kernel
theorem dX6_isBusy_35 : decode cX6_isBusy 35 = .ok (.iload_n 1, 1) := by decide +kernel
theorem dX6_isBusy_36 : decode cX6_isBusy 36 = .ok (.if_icmp .ne 7, 3) := by decide +kernel
theorem dX6_isBusy_39 : decode cX6_isBusy 39 = .ok (.iconst 1, 1) := by decide +kernel
theorem dX6_isBusy_40 : decode cX6_isBusy 40 = .ok (.goto 4, 3) := by decide +kernel
theorem dX6_isBusy_43 : decode cX6_isBusy 43 = .ok (.iconst 0, 1) := by decide +kernel
theorem dX6_isBusy_44 : decode cX6_isBusy 44 = .ok (.istore_n 2, 1) := by decide +kernel
theorem dX6_isBusy_45 : decode cX6_isBusy 45 = .ok (.iinc 3 1, 3) := by decide +kernel
theorem dX6_isBusy_48 : decode cX6_isBusy 48 = .ok (.goto (-31), 3) := by decide +kernel
theorem dX6_isBusy_51 : decode cX6_isBusy 51 = .ok (.iload_n 2, 1) := by decide +kernel
theorem dX6_isBusy_52 : decode cX6_isBusy 52 = .ok (.ireturn, 1) := by decide +kernel
set_option maxRecDepth 20000 in
theorem ggX6_order_X6_is : GoodIn wsX6_order wsX6_is := goodIn_r _ [11] (by decide +kernel) (by decide +kernel)
set_option maxRecDepth 20000 in
theorem gX6_order_X6_is : GoodIn wsX6_order (va_wsS RX6 78 yX6_is wsX6_is) := goodIn_app (goodIn_of _ (by decide +kernel)) ggX6_order_X6_is
set_option maxRecDepth 20000 in
theorem ggX6_order_X6_isBusy : GoodIn wsX6_order wsX6_isBusy := goodIn_r _ [15, 16, 1, 5, 17, 18, 19, 20, 21, 22, 23, 24, 25, 26, 27, 28, 29, 30, 31, 32, 33, 34, 35, 36, 37, 38] (by decide +kernel) (by decide +kernel)
set_option maxRecDepth 20000 in
theorem gX6_order_X6_isBusy : GoodIn wsX6_order (wsV RX6 82 RX6 yX6_isBusy wsX6_isBusy) := goodIn_app (goodIn_of _ (by decide +kernel)) ggX6_order_X6_isBusy
theorem dX6_order_0 : decode cX6_order 0 = .ok (.iload_n 1, 1) := by decide +kernel
theorem dX6_order_1 : decode cX6_order 1 = .ok (.aload_n 0, 1) := by decide +kernel
theorem dX6_order_2 : decode cX6_order 2 = .ok (.getfield 65, 3) := by decide +kernel
theorem dX6_order_5 : decode cX6_order 5 = .ok (.invokestatic 78, 3) := by decide +kernel
theorem dX6_order_8 : decode cX6_order 8 = .ok (.ifCond .eq 25, 3) := by decide +kernel
theorem dX6_order_11 : decode cX6_order 11 = .ok (.iload_n 2, 1) := by decide +kernel
theorem dX6_order_12 : decode cX6_order 12 = .ok (.aload_n 0, 1) := by decide +kernel
theorem dX6_order_13 : decode cX6_order 13 = .ok (.getfield 68, 3) := by decide +kernel
theorem dX6_order_16 : decode cX6_order 16 = .ok (.invokestatic 78, 3) := by decide +kernel
theorem dX6_order_19 : decode cX6_order 19 = .ok (.ifCond .eq 14, 3) := by decide +kernel
theorem dX6_order_22 : decode cX6_order 22 = .ok (.iload_n 3, 1) := by decide +kernel
theorem dX6_order_23 : decode cX6_order 23 = .ok (.aload_n 0, 1) := by decide +kernel
theorem dX6_order_24 : decode cX6_order 24 = .ok (.getfield 59, 3) := by decide +kernel
theorem dX6_order_27 : decode cX6_order 27 = .ok (.invokestatic 78, 3) := by decide +kernel
theorem dX6_order_30 : decode cX6_order 30 = .ok (.ifCond .ne 9, 3) := by decide +kernel
theorem dX6_order_33 : decode cX6_order 33 = .ok (.aload_n 0, 1) := by decide +kernel
theorem dX6_order_34 : decode cX6_order 34 = .ok (.iconst 1, 1) := by decide +kernel
theorem dX6_order_35 : decode cX6_order 35 = .ok (.putfield 55, 3) := by decide +kernel
theorem dX6_order_38 : decode cX6_order 38 = .ok (.return_, 1) := by decide +kernel
theorem dX6_order_39 : decode cX6_order 39 = .ok (.aload_n 0, 1) := by decide +kernel
theorem dX6_order_40 : decode cX6_order 40 = .ok (.aload_n 0, 1) := by decide +kernel
theorem dX6_order_41 : decode cX6_order 41 = .ok (.getfield 28, 3) := by decide +kernel
theorem dX6_order_44 : decode cX6_order 44 = .ok (.iload_n 1, 1) := by decide +kernel
theorem dX6_order_45 : decode cX6_order 45 = .ok (.iaload, 1) := by decide +kernel
theorem dX6_order_46 : decode cX6_order 46 = .ok (.iconst (-1), 1) := by decide +kernel
theorem dX6_order_47 : decode cX6_order 47 = .ok (.if_icmp .ne 21, 3) := by decide +kernel
theorem dX6_order_50 : decode cX6_order 50 = .ok (.aload_n 0, 1) := by decide +kernel
theorem dX6_order_51 : decode cX6_order 51 = .ok (.iload_n 2, 1) := by decide +kernel
theorem dX6_order_52 : decode cX6_order 52 = .ok (.invokevirtual 82, 3) := by decide +kernel
theorem dX6_order_55 : decode cX6_order 55 = .ok (.ifCond .ne 13, 3) := by decide +kernel
theorem dX6_order_58 : decode cX6_order 58 = .ok (.aload_n 0, 1) := by decide +kernel
theorem dX6_order_59 : decode cX6_order 59 = .ok (.getfield 52, 3) := by decide +kernel
theorem dX6_order_62 : decode cX6_order 62 = .ok (.iload_n 3, 1) := by decide +kernel
theorem dX6_order_63 : decode cX6_order 63 = .ok (.iaload, 1) := by decide +kernel
theorem dX6_order_64 : decode cX6_order 64 = .ok (.iconst 1, 1) := by decide +kernel
theorem dX6_order_65 : decode cX6_order 65 = .ok (.if_icmp .le 7, 3) := by decide +kernel
theorem dX6_order_68 : decode cX6_order 68 = .ok (.iconst 2, 1) := by decide +kernel
theorem dX6_order_69 : decode cX6_order 69 = .ok (.goto 4, 3) := by decide +kernel
theorem dX6_order_72 : decode cX6_order 72 = .ok (.iconst 0, 1) := by decide +kernel
theorem dX6_order_73 : decode cX6_order 73 = .ok (.putfield 55, 3) := by decide +kernel
theorem dX6_order_76 : decode cX6_order 76 = .ok (.aload_n 0, 1) := by decide +kernel
theorem dX6_order_77 : decode cX6_order 77 = .ok (.getfield 55, 3) := by decide +kernel
theorem dX6_order_80 : decode cX6_order 80 = .ok (.ifCond .ne 17, 3) := by decide +kernel
theorem dX6_order_83 : decode cX6_order 83 = .ok (.aload_n 0, 1) := by decide +kernel
theorem dX6_order_84 : decode cX6_order 84 = .ok (.getfield 28, 3) := by decide +kernel
theorem dX6_order_87 : decode cX6_order 87 = .ok (.iload_n 1, 1) := by decide +kernel
theorem dX6_order_88 : decode cX6_order 88 = .ok (.iload_n 2, 1) := by decide +kernel
theorem dX6_order_89 : decode cX6_order 89 = .ok (.iastore, 1) := by decide +kernel
theorem dX6_order_90 : decode cX6_order 90 = .ok (.aload_n 0, 1) := by decide +kernel
theorem dX6_order_91 : decode cX6_order 91 = .ok (.getfield 31, 3) := by decide +kernel
theorem dX6_order_94 : decode cX6_order 94 = .ok (.iload_n 1, 1) := by decide +kernel
theorem dX6_order_95 : decode cX6_order 95 = .ok (.iload_n 3, 1) := by decide +kernel
theorem dX6_order_96 : decode cX6_order 96 = .ok (.iastore, 1) := by decide +kernel
theorem dX6_order_97 : decode cX6_order 97 = .ok (.return_, 1) := by decide +kernel
set_option maxRecDepth 20000 in
theorem ggX6_shift_X6_is : GoodIn wsX6_shift wsX6_is := goodIn_r _ [9] (by decide +kernel) (by decide +kernel)
set_option maxRecDepth 20000 in
theorem gX6_shift_X6_is : GoodIn wsX6_shift (va_wsS RX6 78 yX6_is wsX6_is) := goodIn_app (goodIn_of _ (by decide +kernel)) ggX6_shift_X6_is
theorem dX6_shift_0 : decode cX6_shift 0 = .ok (.aload_n 0, 1) := by decide +kernel
theorem dX6_shift_1 : decode cX6_shift 1 = .ok (.iload_n 1, 1) := by decide +kernel
theorem dX6_shift_2 : decode cX6_shift 2 = .ok (.aload_n 0, 1) := by decide +kernel
theorem dX6_shift_3 : decode cX6_shift 3 = .ok (.getfield 65, 3) := by decide +kernel
theorem dX6_shift_6 : decode cX6_shift 6 = .ok (.invokestatic 78, 3) := by decide +kernel
theorem dX6_shift_9 : decode cX6_shift 9 = .ok (.ifCond .eq 14, 3) := by decide +kernel
theorem dX6_shift_12 : decode cX6_shift 12 = .ok (.iload_n 2, 1) := by decide +kernel
theorem dX6_shift_13 : decode cX6_shift 13 = .ok (.aload_n 0, 1) := by decide +kernel
theorem dX6_shift_14 : decode cX6_shift 14 = .ok (.getfield 62, 3) := by decide +kernel
theorem dX6_shift_17 : decode cX6_shift 17 = .ok (.invokestatic 78, 3) := by decide +kernel
theorem dX6_shift_20 : decode cX6_shift 20 = .ok (.ifCond .ne 7, 3) := by decide +kernel
theorem dX6_shift_23 : decode cX6_shift 23 = .ok (.iconst 1, 1) := by decide +kernel
theorem dX6_shift_24 : decode cX6_shift 24 = .ok (.goto 18, 3) := by decide +kernel
theorem dX6_shift_27 : decode cX6_shift 27 = .ok (.aload_n 0, 1) := by decide +kernel
theorem dX6_shift_28 : decode cX6_shift 28 = .ok (.getfield 28, 3) := by decide +kernel
theorem dX6_shift_31 : decode cX6_shift 31 = .ok (.iload_n 1, 1) := by decide +kernel
theorem dX6_shift_32 : decode cX6_shift 32 = .ok (.iaload, 1) := by decide +kernel
theorem dX6_shift_33 : decode cX6_shift 33 = .ok (.iconst (-1), 1) := by decide +kernel
theorem dX6_shift_34 : decode cX6_shift 34 = .ok (.if_icmp .eq 7, 3) := by decide +kernel
theorem dX6_shift_37 : decode cX6_shift 37 = .ok (.iconst 2, 1) := by decide +kernel
theorem dX6_shift_38 : decode cX6_shift 38 = .ok (.goto 4, 3) := by decide +kernel
theorem dX6_shift_41 : decode cX6_shift 41 = .ok (.iconst 0, 1) := by decide +kernel
theorem dX6_shift_42 : decode cX6_shift 42 = .ok (.putfield 55, 3) := by decide +kernel
theorem dX6_shift_45 : decode cX6_shift 45 = .ok (.aload_n 0, 1) := by decide +kernel
theorem dX6_shift_46 : decode cX6_shift 46 = .ok (.getfield 55, 3) := by decide +kernel
theorem dX6_shift_49 : decode cX6_shift 49 = .ok (.ifCond .ne 10, 3) := by decide +kernel
theorem dX6_shift_52 : decode cX6_shift 52 = .ok (.aload_n 0, 1) := by decide +kernel
theorem dX6_shift_53 : decode cX6_shift 53 = .ok (.getfield 25, 3) := by decide +kernel
theorem dX6_shift_56 : decode cX6_shift 56 = .ok (.iload_n 1, 1) := by decide +kernel
theorem dX6_shift_57 : decode cX6_shift 57 = .ok (.iload_n 2, 1) := by decide +kernel
theorem dX6_shift_58 : decode cX6_shift 58 = .ok (.iastore, 1) := by decide +kernel
theorem dX6_shift_59 : decode cX6_shift 59 = .ok (.return_, 1) := by decide +kernel
set_option maxRecDepth 20000 in
theorem ggX6_sweep_X6_is : GoodIn wsX6_sweep wsX6_is := goodIn_r _ [13] (by decide +kernel) (by decide +kernel)
set_option maxRecDepth 20000 in
theorem gX6_sweep_X6_is : GoodIn wsX6_sweep (va_wsS RX6 78 yX6_is wsX6_is) := goodIn_app (goodIn_of _ (by decide +kernel)) ggX6_sweep_X6_is
set_option maxRecDepth 20000 in
theorem ggX6_sweep_X6_isBusy : GoodIn wsX6_sweep wsX6_isBusy := goodIn_r _ [17, 8, 1, 4, 18, 19, 20, 21, 22, 23, 24, 25, 26, 27, 28, 29, 30, 31, 32, 33, 34, 35, 36, 37, 38, 39] (by decide +kernel) (by decide +kernel)
set_option maxRecDepth 20000 in
theorem gX6_sweep_X6_isBusy : GoodIn wsX6_sweep (wsV RX6 82 RX6 yX6_isBusy wsX6_isBusy) := goodIn_app (goodIn_of _ (by decide +kernel)) ggX6_sweep_X6_isBusy
theorem dX6_sweep_0 : decode cX6_sweep 0 = .ok (.iload_n 1, 1) := by decide +kernel
theorem dX6_sweep_1 : decode cX6_sweep 1 = .ok (.aload_n 0, 1) := by decide +kernel
theorem dX6_sweep_2 : decode cX6_sweep 2 = .ok (.getfield 65, 3) := by decide +kernel
theorem dX6_sweep_5 : decode cX6_sweep 5 = .ok (.invokestatic 78, 3) := by decide +kernel
theorem dX6_sweep_8 : decode cX6_sweep 8 = .ok (.ifCond .eq 14, 3) := by decide +kernel
theorem dX6_sweep_11 : decode cX6_sweep 11 = .ok (.iload_n 2, 1) := by decide +kernel
theorem dX6_sweep_12 : decode cX6_sweep 12 = .ok (.aload_n 0, 1) := by decide +kernel
theorem dX6_sweep_13 : decode cX6_sweep 13 = .ok (.getfield 68, 3) := by decide +kernel
theorem dX6_sweep_16 : decode cX6_sweep 16 = .ok (.invokestatic 78, 3) := by decide +kernel
theorem dX6_sweep_19 : decode cX6_sweep 19 = .ok (.ifCond .ne 10, 3) := by decide +kernel
theorem dX6_sweep_22 : decode cX6_sweep 22 = .ok (.aload_n 0, 1) := by decide +kernel
theorem dX6_sweep_23 : decode cX6_sweep 23 = .ok (.iconst 1, 1) := by decide +kernel
theorem dX6_sweep_24 : decode cX6_sweep 24 = .ok (.putfield 55, 3) := by decide +kernel
theorem dX6_sweep_27 : decode cX6_sweep 27 = .ok (.iconst 0, 1) := by decide +kernel
theorem dX6_sweep_28 : decode cX6_sweep 28 = .ok (.ireturn, 1) := by decide +kernel
theorem dX6_sweep_29 : decode cX6_sweep 29 = .ok (.aload_n 0, 1) := by decide +kernel
theorem dX6_sweep_30 : decode cX6_sweep 30 = .ok (.aload_n 0, 1) := by decide +kernel
theorem dX6_sweep_31 : decode cX6_sweep 31 = .ok (.getfield 28, 3) := by decide +kernel
theorem dX6_sweep_34 : decode cX6_sweep 34 = .ok (.iload_n 1, 1) := by decide +kernel
theorem dX6_sweep_35 : decode cX6_sweep 35 = .ok (.iaload, 1) := by decide +kernel
theorem dX6_sweep_36 : decode cX6_sweep 36 = .ok (.iconst (-1), 1) := by decide +kernel
theorem dX6_sweep_37 : decode cX6_sweep 37 = .ok (.if_icmp .ne 11, 3) := by decide +kernel
theorem dX6_sweep_40 : decode cX6_sweep 40 = .ok (.aload_n 0, 1) := by decide +kernel
theorem dX6_sweep_41 : decode cX6_sweep 41 = .ok (.iload_n 2, 1) := by decide +kernel
theorem dX6_sweep_42 : decode cX6_sweep 42 = .ok (.invokevirtual 82, 3) := by decide +kernel
theorem dX6_sweep_45 : decode cX6_sweep 45 = .ok (.ifCond .eq 7, 3) := by decide +kernel
theorem dX6_sweep_48 : decode cX6_sweep 48 = .ok (.iconst 2, 1) := by decide +kernel
theorem dX6_sweep_49 : decode cX6_sweep 49 = .ok (.goto 4, 3) := by decide +kernel
theorem dX6_sweep_52 : decode cX6_sweep 52 = .ok (.iconst 0, 1) := by decide +kernel
theorem dX6_sweep_53 : decode cX6_sweep 53 = .ok (.putfield 55, 3) := by decide +kernel
theorem dX6_sweep_56 : decode cX6_sweep 56 = .ok (.aload_n 0, 1) := by decide +kernel
theorem dX6_sweep_57 : decode cX6_sweep 57 = .ok (.getfield 55, 3) := by decide +kernel
theorem dX6_sweep_60 : decode cX6_sweep 60 = .ok (.ifCond .eq 5, 3) := by decide +kernel
theorem dX6_sweep_63 : decode cX6_sweep 63 = .ok (.iconst 0, 1) := by decide +kernel
theorem dX6_sweep_64 : decode cX6_sweep 64 = .ok (.ireturn, 1) := by decide +kernel
theorem dX6_sweep_65 : decode cX6_sweep 65 = .ok (.aload_n 0, 1) := by decide +kernel
theorem dX6_sweep_66 : decode cX6_sweep 66 = .ok (.getfield 19, 3) := by decide +kernel
theorem dX6_sweep_69 : decode cX6_sweep 69 = .ok (.iload_n 1, 1) := by decide +kernel
theorem dX6_sweep_70 : decode cX6_sweep 70 = .ok (.iaload, 1) := by decide +kernel
theorem dX6_sweep_71 : decode cX6_sweep 71 = .ok (.istore_n 3, 1) := by decide +kernel
theorem dX6_sweep_72 : decode cX6_sweep 72 = .ok (.aload_n 0, 1) := by decide +kernel
theorem dX6_sweep_73 : decode cX6_sweep 73 = .ok (.getfield 7, 3) := by decide +kernel
theorem dX6_sweep_76 : decode cX6_sweep 76 = .ok (.aload_n 0, 1) := by decide +kernel
theorem dX6_sweep_77 : decode cX6_sweep 77 = .ok (.getfield 25, 3) := by decide +kernel
theorem dX6_sweep_80 : decode cX6_sweep 80 = .ok (.iload_n 1, 1) := by decide +kernel
theorem dX6_sweep_81 : decode cX6_sweep 81 = .ok (.iaload, 1) := by decide +kernel
theorem dX6_sweep_82 : decode cX6_sweep 82 = .ok (.dup2, 1) := by decide +kernel
theorem dX6_sweep_83 : decode cX6_sweep 83 = .ok (.iaload, 1) := by decide +kernel
theorem dX6_sweep_84 : decode cX6_sweep 84 = .ok (.iload_n 3, 1) := by decide +kernel
theorem dX6_sweep_85 : decode cX6_sweep 85 = .ok (.iadd, 1) := by decide +kernel
theorem dX6_sweep_86 : decode cX6_sweep 86 = .ok (.iastore, 1) := by decide +kernel
theorem dX6_sweep_87 : decode cX6_sweep 87 = .ok (.aload_n 0, 1) := by decide +kernel
theorem dX6_sweep_88 : decode cX6_sweep 88 = .ok (.getfield 19, 3) := by decide +kernel
theorem dX6_sweep_91 : decode cX6_sweep 91 = .ok (.iload_n 1, 1) := by decide +kernel
theorem dX6_sweep_92 : decode cX6_sweep 92 = .ok (.iconst 0, 1) := by decide +kernel
theorem dX6_sweep_93 : decode cX6_sweep 93 = .ok (.iastore, 1) := by decide +kernel
theorem dX6_sweep_94 : decode cX6_sweep 94 = .ok (.aload_n 0, 1) := by decide +kernel
theorem dX6_sweep_95 : decode cX6_sweep 95 = .ok (.getfield 43, 3) := by decide +kernel
theorem dX6_sweep_98 : decode cX6_sweep 98 = .ok (.iload_n 2, 1) := by decide +kernel
theorem dX6_sweep_99 : decode cX6_sweep 99 = .ok (.bipush 8, 2) := by decide +kernel
theorem dX6_sweep_101 : decode cX6_sweep 101 = .ok (.iastore, 1) := by decide +kernel
theorem dX6_sweep_102 : decode cX6_sweep 102 = .ok (.aload_n 0, 1) := by decide +kernel
theorem dX6_sweep_103 : decode cX6_sweep 103 = .ok (.getfield 40, 3) := by decide +kernel
theorem dX6_sweep_106 : decode cX6_sweep 106 = .ok (.iload_n 2, 1) := by decide +kernel
theorem dX6_sweep_107 : decode cX6_sweep 107 = .ok (.iconst 0, 1) := by decide +kernel
theorem dX6_sweep_108 : decode cX6_sweep 108 = .ok (.iastore, 1) := by decide +kernel
theorem dX6_sweep_109 : decode cX6_sweep 109 = .ok (.iload_n 3, 1) := by decide +kernel
theorem dX6_sweep_110 : decode cX6_sweep 110 = .ok (.ireturn, 1) := by decide +kernel
theorem dX6_endOrder_0 : decode cX6_endOrder 0 = .ok (.aload_n 0, 1) := by decide +kernel
theorem dX6_endOrder_1 : decode cX6_endOrder 1 = .ok (.getfield 28, 3) := by decide +kernel
theorem dX6_endOrder_4 : decode cX6_endOrder 4 = .ok (.iload_n 1, 1) := by decide +kernel
theorem dX6_endOrder_5 : decode cX6_endOrder 5 = .ok (.iaload, 1) := by decide +kernel
theorem dX6_endOrder_6 : decode cX6_endOrder 6 = .ok (.istore_n 2, 1) := by decide +kernel
theorem dX6_endOrder_7 : decode cX6_endOrder 7 = .ok (.aload_n 0, 1) := by decide +kernel
theorem dX6_endOrder_8 : decode cX6_endOrder 8 = .ok (.getfield 28, 3) := by decide +kernel
theorem dX6_endOrder_11 : decode cX6_endOrder 11 = .ok (.iload_n 1, 1) := by decide +kernel
theorem dX6_endOrder_12 : decode cX6_endOrder 12 = .ok (.iconst (-1), 1) := by decide +kernel
theorem dX6_endOrder_13 : decode cX6_endOrder 13 = .ok (.iastore, 1) := by decide +kernel
theorem dX6_endOrder_14 : decode cX6_endOrder 14 = .ok (.aload_n 0, 1) := by decide +kernel
theorem dX6_endOrder_15 : decode cX6_endOrder 15 = .ok (.getfield 22, 3) := by decide +kernel
theorem dX6_endOrder_18 : decode cX6_endOrder 18 = .ok (.iload_n 1, 1) := by decide +kernel
theorem dX6_endOrder_19 : decode cX6_endOrder 19 = .ok (.iconst 0, 1) := by decide +kernel
theorem dX6_endOrder_20 : decode cX6_endOrder 20 = .ok (.iastore, 1) := by decide +kernel
theorem dX6_endOrder_21 : decode cX6_endOrder 21 = .ok (.aload_n 0, 1) := by decide +kernel
theorem dX6_endOrder_22 : decode cX6_endOrder 22 = .ok (.getfield 40, 3) := by decide +kernel
theorem dX6_endOrder_25 : decode cX6_endOrder 25 = .ok (.iload_n 2, 1) := by decide +kernel
theorem dX6_endOrder_26 : decode cX6_endOrder 26 = .ok (.iaload, 1) := by decide +kernel
theorem dX6_endOrder_27 : decode cX6_endOrder 27 = .ok (.bipush 8, 2) := by decide +kernel
theorem dX6_endOrder_29 : decode cX6_endOrder 29 = .ok (.if_icmp .lt 18, 3) := by decide +kernel
theorem dX6_endOrder_32 : decode cX6_endOrder 32 = .ok (.aload_n 0, 1) := by decide +kernel
theorem dX6_endOrder_33 : decode cX6_endOrder 33 = .ok (.getfield 43, 3) := by decide +kernel
theorem dX6_endOrder_36 : decode cX6_endOrder 36 = .ok (.iload_n 2, 1) := by decide +kernel
theorem dX6_endOrder_37 : decode cX6_endOrder 37 = .ok (.bipush 8, 2) := by decide +kernel
theorem dX6_endOrder_39 : decode cX6_endOrder 39 = .ok (.iastore, 1) := by decide +kernel
theorem dX6_endOrder_40 : decode cX6_endOrder 40 = .ok (.aload_n 0, 1) := by decide +kernel
theorem dX6_endOrder_41 : decode cX6_endOrder 41 = .ok (.getfield 40, 3) := by decide +kernel
theorem dX6_endOrder_44 : decode cX6_endOrder 44 = .ok (.iload_n 2, 1) := by decide +kernel
theorem dX6_endOrder_45 : decode cX6_endOrder 45 = .ok (.iconst 0, 1) := by decide +kernel
theorem dX6_endOrder_46 : decode cX6_endOrder 46 = .ok (.iastore, 1) := by decide +kernel
theorem dX6_endOrder_47 : decode cX6_endOrder 47 = .ok (.return_, 1) := by decide +kernel
set_option maxRecDepth 20000 in
theorem ggX6_shovels_X6_least : GoodIn wsX6_shovels wsX6_least := goodIn_r _ [7] (by decide +kernel) (by decide +kernel)
set_option maxRecDepth 20000 in
theorem gX6_shovels_X6_least : GoodIn wsX6_shovels (va_wsS RX6 86 yX6_least wsX6_least) := goodIn_app (goodIn_of _ (by decide +kernel)) ggX6_shovels_X6_least
theorem dX6_shovels_0 : decode cX6_shovels 0 = .ok (.iconst 4, 1) := by decide +kernel
theorem dX6_shovels_1 : decode cX6_shovels 1 = .ok (.aload_n 0, 1) := by decide +kernel
theorem dX6_shovels_2 : decode cX6_shovels 2 = .ok (.getfield 37, 3) := by decide +kernel
theorem dX6_shovels_5 : decode cX6_shovels 5 = .ok (.aload_n 0, 1) := by decide +kernel
theorem dX6_shovels_6 : decode cX6_shovels 6 = .ok (.getfield 28, 3) := by decide +kernel
theorem dX6_shovels_9 : decode cX6_shovels 9 = .ok (.iload_n 1, 1) := by decide +kernel
theorem dX6_shovels_10 : decode cX6_shovels 10 = .ok (.iaload, 1) := by decide +kernel
theorem dX6_shovels_11 : decode cX6_shovels 11 = .ok (.iaload, 1) := by decide +kernel
theorem dX6_shovels_12 : decode cX6_shovels 12 = .ok (.imul, 1) := by decide +kernel
theorem dX6_shovels_13 : decode cX6_shovels 13 = .ok (.aload_n 0, 1) := by decide +kernel
theorem dX6_shovels_14 : decode cX6_shovels 14 = .ok (.getfield 19, 3) := by decide +kernel
theorem dX6_shovels_17 : decode cX6_shovels 17 = .ok (.iload_n 1, 1) := by decide +kernel
theorem dX6_shovels_18 : decode cX6_shovels 18 = .ok (.iaload, 1) := by decide +kernel
theorem dX6_shovels_19 : decode cX6_shovels 19 = .ok (.iconst 5, 1) := by decide +kernel
theorem dX6_shovels_20 : decode cX6_shovels 20 = .ok (.idiv, 1) := by decide +kernel
theorem dX6_shovels_21 : decode cX6_shovels 21 = .ok (.isub, 1) := by decide +kernel
theorem dX6_shovels_22 : decode cX6_shovels 22 = .ok (.istore_n 3, 1) := by decide +kernel
theorem dX6_shovels_23 : decode cX6_shovels 23 = .ok (.iload_n 3, 1) := by decide +kernel
theorem dX6_shovels_24 : decode cX6_shovels 24 = .ok (.iconst 1, 1) := by decide +kernel
theorem dX6_shovels_25 : decode cX6_shovels 25 = .ok (.if_icmp .ge 7, 3) := by decide +kernel
theorem dX6_shovels_28 : decode cX6_shovels 28 = .ok (.iconst 1, 1) := by decide +kernel
theorem dX6_shovels_29 : decode cX6_shovels 29 = .ok (.goto 4, 3) := by decide +kernel
theorem dX6_shovels_32 : decode cX6_shovels 32 = .ok (.iload_n 3, 1) := by decide +kernel
theorem dX6_shovels_33 : decode cX6_shovels 33 = .ok (.iload_n 2, 1) := by decide +kernel
theorem dX6_shovels_34 : decode cX6_shovels 34 = .ok (.invokestatic 86, 3) := by decide +kernel
theorem dX6_shovels_37 : decode cX6_shovels 37 = .ok (.ireturn, 1) := by decide +kernel
set_option maxRecDepth 20000 in
theorem ggX6_atHulk_X6_least : GoodIn wsX6_atHulk wsX6_least := goodIn_r _ [11] (by decide +kernel) (by decide +kernel)
set_option maxRecDepth 20000 in
theorem gX6_atHulk_X6_least : GoodIn wsX6_atHulk (va_wsS RX6 86 yX6_least wsX6_least) := goodIn_app (goodIn_of _ (by decide +kernel)) ggX6_atHulk_X6_least
set_option maxRecDepth 20000 in
theorem ggX6_atHulk_X6_shovels : GoodIn wsX6_atHulk wsX6_shovels := goodIn_r _ [15, 16, 17, 5, 8, 9, 10, 11, 24, 25, 26, 27, 28, 29, 30, 31, 32, 33, 34, 35, 36, 37, 38, 39, 40, 41, 42, 43, 44, 45] (by decide +kernel) (by decide +kernel)
set_option maxRecDepth 20000 in
theorem gX6_atHulk_X6_shovels : GoodIn wsX6_atHulk (wsV RX6 90 RX6 yX6_shovels wsX6_shovels) := goodIn_app (goodIn_of _ (by decide +kernel)) ggX6_atHulk_X6_shovels
set_option maxRecDepth 20000 in
theorem ggX6_atHulk_X6_endOrder : GoodIn wsX6_atHulk wsX6_endOrder := goodIn_r _ [21, 17, 6, 22, 23, 24, 25, 26, 27, 28, 29, 30, 31, 32, 33, 34, 35, 36, 37, 38, 39, 40, 41, 42, 43, 44, 45] (by decide +kernel) (by decide +kernel)
set_option maxRecDepth 20000 in
theorem gX6_atHulk_X6_endOrder : GoodIn wsX6_atHulk (wsV RX6 93 RX6 yX6_endOrder wsX6_endOrder) := goodIn_app (goodIn_of _ (by decide +kernel)) ggX6_atHulk_X6_endOrder
theorem dX6_atHulk_0 : decode cX6_atHulk 0 = .ok (.aload_n 0, 1) := by decide +kernel
theorem dX6_atHulk_1 : decode cX6_atHulk 1 = .ok (.getfield 7, 3) := by decide +kernel
theorem dX6_atHulk_4 : decode cX6_atHulk 4 = .ok (.aload_n 0, 1) := by decide +kernel
theorem dX6_atHulk_5 : decode cX6_atHulk 5 = .ok (.getfield 25, 3) := by decide +kernel
theorem dX6_atHulk_8 : decode cX6_atHulk 8 = .ok (.iload_n 1, 1) := by decide +kernel
theorem dX6_atHulk_9 : decode cX6_atHulk 9 = .ok (.iaload, 1) := by decide +kernel
theorem dX6_atHulk_10 : decode cX6_atHulk 10 = .ok (.iaload, 1) := by decide +kernel
theorem dX6_atHulk_11 : decode cX6_atHulk 11 = .ok (.istore_n 2, 1) := by decide +kernel
theorem dX6_atHulk_12 : decode cX6_atHulk 12 = .ok (.aload_n 0, 1) := by decide +kernel
theorem dX6_atHulk_13 : decode cX6_atHulk 13 = .ok (.getfield 13, 3) := by decide +kernel
theorem dX6_atHulk_16 : decode cX6_atHulk 16 = .ok (.iload_n 1, 1) := by decide +kernel
theorem dX6_atHulk_17 : decode cX6_atHulk 17 = .ok (.iaload, 1) := by decide +kernel
theorem dX6_atHulk_18 : decode cX6_atHulk 18 = .ok (.aload_n 0, 1) := by decide +kernel
theorem dX6_atHulk_19 : decode cX6_atHulk 19 = .ok (.getfield 16, 3) := by decide +kernel
theorem dX6_atHulk_22 : decode cX6_atHulk 22 = .ok (.iload_n 1, 1) := by decide +kernel
theorem dX6_atHulk_23 : decode cX6_atHulk 23 = .ok (.iaload, 1) := by decide +kernel
theorem dX6_atHulk_24 : decode cX6_atHulk 24 = .ok (.isub, 1) := by decide +kernel
theorem dX6_atHulk_25 : decode cX6_atHulk 25 = .ok (.istore_n 3, 1) := by decide +kernel
theorem dX6_atHulk_26 : decode cX6_atHulk 26 = .ok (.iload_n 2, 1) := by decide +kernel
theorem dX6_atHulk_27 : decode cX6_atHulk 27 = .ok (.ifCond .le 69, 3) := by decide +kernel
theorem dX6_atHulk_30 : decode cX6_atHulk 30 = .ok (.iload_n 3, 1) := by decide +kernel
theorem dX6_atHulk_31 : decode cX6_atHulk 31 = .ok (.ifCond .le 65, 3) := by decide +kernel
theorem dX6_atHulk_34 : decode cX6_atHulk 34 = .ok (.aload_n 0, 1) := by decide +kernel
theorem dX6_atHulk_35 : decode cX6_atHulk 35 = .ok (.iload_n 1, 1) := by decide +kernel
theorem dX6_atHulk_36 : decode cX6_atHulk 36 = .ok (.iload_n 2, 1) := by decide +kernel
theorem dX6_atHulk_37 : decode cX6_atHulk 37 = .ok (.iload_n 3, 1) := by decide +kernel
theorem dX6_atHulk_38 : decode cX6_atHulk 38 = .ok (.invokestatic 86, 3) := by decide +kernel
theorem dX6_atHulk_41 : decode cX6_atHulk 41 = .ok (.invokevirtual 90, 3) := by decide +kernel
theorem dX6_atHulk_44 : decode cX6_atHulk 44 = .ok (.istore 4, 2) := by decide +kernel
theorem dX6_atHulk_46 : decode cX6_atHulk 46 = .ok (.aload_n 0, 1) := by decide +kernel
theorem dX6_atHulk_47 : decode cX6_atHulk 47 = .ok (.getfield 7, 3) := by decide +kernel
theorem dX6_atHulk_50 : decode cX6_atHulk 50 = .ok (.aload_n 0, 1) := by decide +kernel
theorem dX6_atHulk_51 : decode cX6_atHulk 51 = .ok (.getfield 25, 3) := by decide +kernel
theorem dX6_atHulk_54 : decode cX6_atHulk 54 = .ok (.iload_n 1, 1) := by decide +kernel
theorem dX6_atHulk_55 : decode cX6_atHulk 55 = .ok (.iaload, 1) := by decide +kernel
theorem dX6_atHulk_56 : decode cX6_atHulk 56 = .ok (.dup2, 1) := by decide +kernel
theorem dX6_atHulk_57 : decode cX6_atHulk 57 = .ok (.iaload, 1) := by decide +kernel
theorem dX6_atHulk_58 : decode cX6_atHulk 58 = .ok (.iload 4, 2) := by decide +kernel
theorem dX6_atHulk_60 : decode cX6_atHulk 60 = .ok (.isub, 1) := by decide +kernel
theorem dX6_atHulk_61 : decode cX6_atHulk 61 = .ok (.iastore, 1) := by decide +kernel
theorem dX6_atHulk_62 : decode cX6_atHulk 62 = .ok (.aload_n 0, 1) := by decide +kernel
theorem dX6_atHulk_63 : decode cX6_atHulk 63 = .ok (.getfield 16, 3) := by decide +kernel
theorem dX6_atHulk_66 : decode cX6_atHulk 66 = .ok (.iload_n 1, 1) := by decide +kernel
theorem dX6_atHulk_67 : decode cX6_atHulk 67 = .ok (.dup2, 1) := by decide +kernel
theorem dX6_atHulk_68 : decode cX6_atHulk 68 = .ok (.iaload, 1) := by decide +kernel
theorem dX6_atHulk_69 : decode cX6_atHulk 69 = .ok (.iload 4, 2) := by decide +kernel
theorem dX6_atHulk_71 : decode cX6_atHulk 71 = .ok (.iload 4, 2) := by decide +kernel
theorem dX6_atHulk_73 : decode cX6_atHulk 73 = .ok (.bipush 50, 2) := by decide +kernel
theorem dX6_atHulk_75 : decode cX6_atHulk 75 = .ok (.idiv, 1) := by decide +kernel
theorem dX6_atHulk_76 : decode cX6_atHulk 76 = .ok (.isub, 1) := by decide +kernel
theorem dX6_atHulk_77 : decode cX6_atHulk 77 = .ok (.iadd, 1) := by decide +kernel
theorem dX6_atHulk_78 : decode cX6_atHulk 78 = .ok (.iastore, 1) := by decide +kernel
theorem dX6_atHulk_79 : decode cX6_atHulk 79 = .ok (.aload_n 0, 1) := by decide +kernel
theorem dX6_atHulk_80 : decode cX6_atHulk 80 = .ok (.getfield 19, 3) := by decide +kernel
theorem dX6_atHulk_83 : decode cX6_atHulk 83 = .ok (.iload_n 1, 1) := by decide +kernel
theorem dX6_atHulk_84 : decode cX6_atHulk 84 = .ok (.dup2, 1) := by decide +kernel
theorem dX6_atHulk_85 : decode cX6_atHulk 85 = .ok (.iaload, 1) := by decide +kernel
theorem dX6_atHulk_86 : decode cX6_atHulk 86 = .ok (.iload 4, 2) := by decide +kernel
theorem dX6_atHulk_88 : decode cX6_atHulk 88 = .ok (.bipush 50, 2) := by decide +kernel
theorem dX6_atHulk_90 : decode cX6_atHulk 90 = .ok (.idiv, 1) := by decide +kernel
theorem dX6_atHulk_91 : decode cX6_atHulk 91 = .ok (.iadd, 1) := by decide +kernel
theorem dX6_atHulk_92 : decode cX6_atHulk 92 = .ok (.iastore, 1) := by decide +kernel
theorem dX6_atHulk_93 : decode cX6_atHulk 93 = .ok (.goto 34, 3) := by decide +kernel
theorem dX6_atHulk_96 : decode cX6_atHulk 96 = .ok (.aload_n 0, 1) := by decide +kernel
theorem dX6_atHulk_97 : decode cX6_atHulk 97 = .ok (.getfield 16, 3) := by decide +kernel
theorem dX6_atHulk_100 : decode cX6_atHulk 100 = .ok (.iload_n 1, 1) := by decide +kernel
theorem dX6_atHulk_101 : decode cX6_atHulk 101 = .ok (.iaload, 1) := by decide +kernel
theorem dX6_atHulk_102 : decode cX6_atHulk 102 = .ok (.ifCond .le 20, 3) := by decide +kernel
theorem dX6_atHulk_105 : decode cX6_atHulk 105 = .ok (.aload_n 0, 1) := by decide +kernel
theorem dX6_atHulk_106 : decode cX6_atHulk 106 = .ok (.getfield 22, 3) := by decide +kernel
theorem dX6_atHulk_109 : decode cX6_atHulk 109 = .ok (.iload_n 1, 1) := by decide +kernel
theorem dX6_atHulk_110 : decode cX6_atHulk 110 = .ok (.iconst 1, 1) := by decide +kernel
theorem dX6_atHulk_111 : decode cX6_atHulk 111 = .ok (.iastore, 1) := by decide +kernel
theorem dX6_atHulk_112 : decode cX6_atHulk 112 = .ok (.aload_n 0, 1) := by decide +kernel
theorem dX6_atHulk_113 : decode cX6_atHulk 113 = .ok (.getfield 34, 3) := by decide +kernel
theorem dX6_atHulk_116 : decode cX6_atHulk 116 = .ok (.iload_n 1, 1) := by decide +kernel
theorem dX6_atHulk_117 : decode cX6_atHulk 117 = .ok (.iconst 2, 1) := by decide +kernel
theorem dX6_atHulk_118 : decode cX6_atHulk 118 = .ok (.iastore, 1) := by decide +kernel
theorem dX6_atHulk_119 : decode cX6_atHulk 119 = .ok (.goto 8, 3) := by decide +kernel
theorem dX6_atHulk_122 : decode cX6_atHulk 122 = .ok (.aload_n 0, 1) := by decide +kernel
theorem dX6_atHulk_123 : decode cX6_atHulk 123 = .ok (.iload_n 1, 1) := by decide +kernel
theorem dX6_atHulk_124 : decode cX6_atHulk 124 = .ok (.invokevirtual 93, 3) := by decide +kernel
theorem dX6_atHulk_127 : decode cX6_atHulk 127 = .ok (.return_, 1) := by decide +kernel
set_option maxRecDepth 20000 in
theorem ggX6_atSteamer_X6_turnHome : GoodIn wsX6_atSteamer wsX6_turnHome := goodIn_r _ [11, 12, 13, 23, 24, 25, 26, 27, 28, 29, 30, 31, 32, 33, 34, 35, 36, 37, 38, 39, 40, 41, 42, 43, 44] (by decide +kernel) (by decide +kernel)
set_option maxRecDepth 20000 in
theorem gX6_atSteamer_X6_turnHome : GoodIn wsX6_atSteamer (wsV RX6 97 RX6 yX6_turnHome wsX6_turnHome) := goodIn_app (goodIn_of _ (by decide +kernel)) ggX6_atSteamer_X6_turnHome
set_option maxRecDepth 20000 in
theorem ggX6_atSteamer_X6_least : GoodIn wsX6_atSteamer wsX6_least := goodIn_r _ [16] (by decide +kernel) (by decide +kernel)
set_option maxRecDepth 20000 in
theorem gX6_atSteamer_X6_least : GoodIn wsX6_atSteamer (va_wsS RX6 86 yX6_least wsX6_least) := goodIn_app (goodIn_of _ (by decide +kernel)) ggX6_atSteamer_X6_least
set_option maxRecDepth 20000 in
theorem ggX6_atSteamer_X6_shovels : GoodIn wsX6_atSteamer wsX6_shovels := goodIn_r _ [20, 21, 22, 5, 14, 15, 10, 16, 23, 24, 25, 26, 27, 28, 29, 30, 31, 32, 33, 34, 35, 36, 37, 38, 39, 40, 41, 42, 43, 44] (by decide +kernel) (by decide +kernel)
set_option maxRecDepth 20000 in
theorem gX6_atSteamer_X6_shovels : GoodIn wsX6_atSteamer (wsV RX6 90 RX6 yX6_shovels wsX6_shovels) := goodIn_app (goodIn_of _ (by decide +kernel)) ggX6_atSteamer_X6_shovels
theorem dX6_atSteamer_0 : decode cX6_atSteamer 0 = .ok (.aload_n 0, 1) := by decide +kernel
theorem dX6_atSteamer_1 : decode cX6_atSteamer 1 = .ok (.getfield 31, 3) := by decide +kernel
theorem dX6_atSteamer_4 : decode cX6_atSteamer 4 = .ok (.iload_n 1, 1) := by decide +kernel
theorem dX6_atSteamer_5 : decode cX6_atSteamer 5 = .ok (.iaload, 1) := by decide +kernel
theorem dX6_atSteamer_6 : decode cX6_atSteamer 6 = .ok (.istore_n 2, 1) := by decide +kernel
theorem dX6_atSteamer_7 : decode cX6_atSteamer 7 = .ok (.aload_n 0, 1) := by decide +kernel
theorem dX6_atSteamer_8 : decode cX6_atSteamer 8 = .ok (.getfield 16, 3) := by decide +kernel
theorem dX6_atSteamer_11 : decode cX6_atSteamer 11 = .ok (.iload_n 1, 1) := by decide +kernel
theorem dX6_atSteamer_12 : decode cX6_atSteamer 12 = .ok (.iaload, 1) := by decide +kernel
theorem dX6_atSteamer_13 : decode cX6_atSteamer 13 = .ok (.ifCond .ne 11, 3) := by decide +kernel
theorem dX6_atSteamer_16 : decode cX6_atSteamer 16 = .ok (.aload_n 0, 1) := by decide +kernel
theorem dX6_atSteamer_17 : decode cX6_atSteamer 17 = .ok (.iload_n 1, 1) := by decide +kernel
theorem dX6_atSteamer_18 : decode cX6_atSteamer 18 = .ok (.invokevirtual 97, 3) := by decide +kernel
theorem dX6_atSteamer_21 : decode cX6_atSteamer 21 = .ok (.goto 87, 3) := by decide +kernel
theorem dX6_atSteamer_24 : decode cX6_atSteamer 24 = .ok (.aload_n 0, 1) := by decide +kernel
theorem dX6_atSteamer_25 : decode cX6_atSteamer 25 = .ok (.getfield 52, 3) := by decide +kernel
theorem dX6_atSteamer_28 : decode cX6_atSteamer 28 = .ok (.iload_n 2, 1) := by decide +kernel
theorem dX6_atSteamer_29 : decode cX6_atSteamer 29 = .ok (.iaload, 1) := by decide +kernel
theorem dX6_atSteamer_30 : decode cX6_atSteamer 30 = .ok (.iconst 1, 1) := by decide +kernel
theorem dX6_atSteamer_31 : decode cX6_atSteamer 31 = .ok (.if_icmp .ne 77, 3) := by decide +kernel
theorem dX6_atSteamer_34 : decode cX6_atSteamer 34 = .ok (.aload_n 0, 1) := by decide +kernel
theorem dX6_atSteamer_35 : decode cX6_atSteamer 35 = .ok (.iload_n 1, 1) := by decide +kernel
theorem dX6_atSteamer_36 : decode cX6_atSteamer 36 = .ok (.aload_n 0, 1) := by decide +kernel
theorem dX6_atSteamer_37 : decode cX6_atSteamer 37 = .ok (.getfield 16, 3) := by decide +kernel
theorem dX6_atSteamer_40 : decode cX6_atSteamer 40 = .ok (.iload_n 1, 1) := by decide +kernel
theorem dX6_atSteamer_41 : decode cX6_atSteamer 41 = .ok (.iaload, 1) := by decide +kernel
theorem dX6_atSteamer_42 : decode cX6_atSteamer 42 = .ok (.aload_n 0, 1) := by decide +kernel
theorem dX6_atSteamer_43 : decode cX6_atSteamer 43 = .ok (.getfield 46, 3) := by decide +kernel
theorem dX6_atSteamer_46 : decode cX6_atSteamer 46 = .ok (.iload_n 2, 1) := by decide +kernel
theorem dX6_atSteamer_47 : decode cX6_atSteamer 47 = .ok (.iaload, 1) := by decide +kernel
theorem dX6_atSteamer_48 : decode cX6_atSteamer 48 = .ok (.invokestatic 86, 3) := by decide +kernel
theorem dX6_atSteamer_51 : decode cX6_atSteamer 51 = .ok (.invokevirtual 90, 3) := by decide +kernel
theorem dX6_atSteamer_54 : decode cX6_atSteamer 54 = .ok (.istore_n 3, 1) := by decide +kernel
theorem dX6_atSteamer_55 : decode cX6_atSteamer 55 = .ok (.aload_n 0, 1) := by decide +kernel
theorem dX6_atSteamer_56 : decode cX6_atSteamer 56 = .ok (.getfield 16, 3) := by decide +kernel
theorem dX6_atSteamer_59 : decode cX6_atSteamer 59 = .ok (.iload_n 1, 1) := by decide +kernel
theorem dX6_atSteamer_60 : decode cX6_atSteamer 60 = .ok (.dup2, 1) := by decide +kernel
theorem dX6_atSteamer_61 : decode cX6_atSteamer 61 = .ok (.iaload, 1) := by decide +kernel
theorem dX6_atSteamer_62 : decode cX6_atSteamer 62 = .ok (.iload_n 3, 1) := by decide +kernel
theorem dX6_atSteamer_63 : decode cX6_atSteamer 63 = .ok (.isub, 1) := by decide +kernel
theorem dX6_atSteamer_64 : decode cX6_atSteamer 64 = .ok (.iastore, 1) := by decide +kernel
theorem dX6_atSteamer_65 : decode cX6_atSteamer 65 = .ok (.aload_n 0, 1) := by decide +kernel
theorem dX6_atSteamer_66 : decode cX6_atSteamer 66 = .ok (.getfield 19, 3) := by decide +kernel
theorem dX6_atSteamer_69 : decode cX6_atSteamer 69 = .ok (.iload_n 1, 1) := by decide +kernel
theorem dX6_atSteamer_70 : decode cX6_atSteamer 70 = .ok (.dup2, 1) := by decide +kernel
theorem dX6_atSteamer_71 : decode cX6_atSteamer 71 = .ok (.iaload, 1) := by decide +kernel
theorem dX6_atSteamer_72 : decode cX6_atSteamer 72 = .ok (.iload_n 3, 1) := by decide +kernel
theorem dX6_atSteamer_73 : decode cX6_atSteamer 73 = .ok (.bipush 50, 2) := by decide +kernel
theorem dX6_atSteamer_75 : decode cX6_atSteamer 75 = .ok (.idiv, 1) := by decide +kernel
theorem dX6_atSteamer_76 : decode cX6_atSteamer 76 = .ok (.iadd, 1) := by decide +kernel
theorem dX6_atSteamer_77 : decode cX6_atSteamer 77 = .ok (.iastore, 1) := by decide +kernel
theorem dX6_atSteamer_78 : decode cX6_atSteamer 78 = .ok (.aload_n 0, 1) := by decide +kernel
theorem dX6_atSteamer_79 : decode cX6_atSteamer 79 = .ok (.getfield 46, 3) := by decide +kernel
theorem dX6_atSteamer_82 : decode cX6_atSteamer 82 = .ok (.iload_n 2, 1) := by decide +kernel
theorem dX6_atSteamer_83 : decode cX6_atSteamer 83 = .ok (.dup2, 1) := by decide +kernel
theorem dX6_atSteamer_84 : decode cX6_atSteamer 84 = .ok (.iaload, 1) := by decide +kernel
theorem dX6_atSteamer_85 : decode cX6_atSteamer 85 = .ok (.iload_n 3, 1) := by decide +kernel
theorem dX6_atSteamer_86 : decode cX6_atSteamer 86 = .ok (.iload_n 3, 1) := by decide +kernel
theorem dX6_atSteamer_87 : decode cX6_atSteamer 87 = .ok (.bipush 50, 2) := by decide +kernel
theorem dX6_atSteamer_89 : decode cX6_atSteamer 89 = .ok (.idiv, 1) := by decide +kernel
theorem dX6_atSteamer_90 : decode cX6_atSteamer 90 = .ok (.isub, 1) := by decide +kernel
theorem dX6_atSteamer_91 : decode cX6_atSteamer 91 = .ok (.isub, 1) := by decide +kernel
theorem dX6_atSteamer_92 : decode cX6_atSteamer 92 = .ok (.iastore, 1) := by decide +kernel
theorem dX6_atSteamer_93 : decode cX6_atSteamer 93 = .ok (.aload_n 0, 1) := by decide +kernel
theorem dX6_atSteamer_94 : decode cX6_atSteamer 94 = .ok (.dup, 1) := by decide +kernel
theorem dX6_atSteamer_95 : decode cX6_atSteamer 95 = .ok (.getfield 100, 3) := by decide +kernel
theorem dX6_atSteamer_98 : decode cX6_atSteamer 98 = .ok (.iload_n 3, 1) := by decide +kernel
theorem dX6_atSteamer_99 : decode cX6_atSteamer 99 = .ok (.iload_n 3, 1) := by decide +kernel
theorem dX6_atSteamer_100 : decode cX6_atSteamer 100 = .ok (.bipush 50, 2) := by decide +kernel
theorem dX6_atSteamer_102 : decode cX6_atSteamer 102 = .ok (.idiv, 1) := by decide +kernel
theorem dX6_atSteamer_103 : decode cX6_atSteamer 103 = .ok (.isub, 1) := by decide +kernel
theorem dX6_atSteamer_104 : decode cX6_atSteamer 104 = .ok (.iadd, 1) := by decide +kernel
theorem dX6_atSteamer_105 : decode cX6_atSteamer 105 = .ok (.putfield 100, 3) := by decide +kernel
theorem dX6_atSteamer_108 : decode cX6_atSteamer 108 = .ok (.return_, 1) := by decide +kernel
theorem dX6_turnHome_0 : decode cX6_turnHome 0 = .ok (.aload_n 0, 1) := by decide +kernel
theorem dX6_turnHome_1 : decode cX6_turnHome 1 = .ok (.getfield 22, 3) := by decide +kernel
theorem dX6_turnHome_4 : decode cX6_turnHome 4 = .ok (.iload_n 1, 1) := by decide +kernel
theorem dX6_turnHome_5 : decode cX6_turnHome 5 = .ok (.iconst 3, 1) := by decide +kernel
theorem dX6_turnHome_6 : decode cX6_turnHome 6 = .ok (.iastore, 1) := by decide +kernel
theorem dX6_turnHome_7 : decode cX6_turnHome 7 = .ok (.aload_n 0, 1) := by decide +kernel
theorem dX6_turnHome_8 : decode cX6_turnHome 8 = .ok (.getfield 34, 3) := by decide +kernel
theorem dX6_turnHome_11 : decode cX6_turnHome 11 = .ok (.iload_n 1, 1) := by decide +kernel
theorem dX6_turnHome_12 : decode cX6_turnHome 12 = .ok (.iconst 1, 1) := by decide +kernel
theorem dX6_turnHome_13 : decode cX6_turnHome 13 = .ok (.iastore, 1) := by decide +kernel
theorem dX6_turnHome_14 : decode cX6_turnHome 14 = .ok (.return_, 1) := by decide +kernel
set_option maxRecDepth 20000 in
theorem ggX6_goOn_X6_endOrder : GoodIn wsX6_goOn wsX6_endOrder := goodIn_r _ [7, 8, 2, 9, 10, 11, 12, 13, 14, 15, 16, 17, 18, 19, 20, 21, 22, 23, 24, 25, 26, 27, 28, 29, 30, 31, 32] (by decide +kernel) (by decide +kernel)
set_option maxRecDepth 20000 in
theorem gX6_goOn_X6_endOrder : GoodIn wsX6_goOn (wsV RX6 93 RX6 yX6_endOrder wsX6_endOrder) := goodIn_app (goodIn_of _ (by decide +kernel)) ggX6_goOn_X6_endOrder
theorem dX6_goOn_0 : decode cX6_goOn 0 = .ok (.aload_n 0, 1) := by decide +kernel
theorem dX6_goOn_1 : decode cX6_goOn 1 = .ok (.getfield 34, 3) := by decide +kernel
theorem dX6_goOn_4 : decode cX6_goOn 4 = .ok (.iload_n 1, 1) := by decide +kernel
theorem dX6_goOn_5 : decode cX6_goOn 5 = .ok (.dup2, 1) := by decide +kernel
theorem dX6_goOn_6 : decode cX6_goOn 6 = .ok (.iaload, 1) := by decide +kernel
theorem dX6_goOn_7 : decode cX6_goOn 7 = .ok (.iconst 1, 1) := by decide +kernel
theorem dX6_goOn_8 : decode cX6_goOn 8 = .ok (.isub, 1) := by decide +kernel
theorem dX6_goOn_9 : decode cX6_goOn 9 = .ok (.iastore, 1) := by decide +kernel
theorem dX6_goOn_10 : decode cX6_goOn 10 = .ok (.aload_n 0, 1) := by decide +kernel
theorem dX6_goOn_11 : decode cX6_goOn 11 = .ok (.getfield 34, 3) := by decide +kernel
theorem dX6_goOn_14 : decode cX6_goOn 14 = .ok (.iload_n 1, 1) := by decide +kernel
theorem dX6_goOn_15 : decode cX6_goOn 15 = .ok (.iaload, 1) := by decide +kernel
theorem dX6_goOn_16 : decode cX6_goOn 16 = .ok (.ifCond .le 4, 3) := by decide +kernel
theorem dX6_goOn_19 : decode cX6_goOn 19 = .ok (.return_, 1) := by decide +kernel
theorem dX6_goOn_20 : decode cX6_goOn 20 = .ok (.aload_n 0, 1) := by decide +kernel
theorem dX6_goOn_21 : decode cX6_goOn 21 = .ok (.getfield 22, 3) := by decide +kernel
theorem dX6_goOn_24 : decode cX6_goOn 24 = .ok (.iload_n 1, 1) := by decide +kernel
theorem dX6_goOn_25 : decode cX6_goOn 25 = .ok (.iaload, 1) := by decide +kernel
theorem dX6_goOn_26 : decode cX6_goOn 26 = .ok (.iconst 1, 1) := by decide +kernel
theorem dX6_goOn_27 : decode cX6_goOn 27 = .ok (.if_icmp .ne 13, 3) := by decide +kernel
theorem dX6_goOn_30 : decode cX6_goOn 30 = .ok (.aload_n 0, 1) := by decide +kernel
theorem dX6_goOn_31 : decode cX6_goOn 31 = .ok (.getfield 22, 3) := by decide +kernel
theorem dX6_goOn_34 : decode cX6_goOn 34 = .ok (.iload_n 1, 1) := by decide +kernel
theorem dX6_goOn_35 : decode cX6_goOn 35 = .ok (.iconst 2, 1) := by decide +kernel
theorem dX6_goOn_36 : decode cX6_goOn 36 = .ok (.iastore, 1) := by decide +kernel
theorem dX6_goOn_37 : decode cX6_goOn 37 = .ok (.goto 8, 3) := by decide +kernel
theorem dX6_goOn_40 : decode cX6_goOn 40 = .ok (.aload_n 0, 1) := by decide +kernel
theorem dX6_goOn_41 : decode cX6_goOn 41 = .ok (.iload_n 1, 1) := by decide +kernel
theorem dX6_goOn_42 : decode cX6_goOn 42 = .ok (.invokevirtual 93, 3) := by decide +kernel
theorem dX6_goOn_45 : decode cX6_goOn 45 = .ok (.return_, 1) := by decide +kernel
set_option maxRecDepth 20000 in
theorem ggX6_work_X6_atHulk : GoodIn wsX6_work wsX6_atHulk := goodIn_r _ [8, 9, 10, 11, 12, 13, 3, 14, 15, 16, 7, 17, 18, 19, 20, 21, 22, 2, 23, 24, 25, 26, 1, 27, 44, 45, 46, 47, 48, 49, 50, 51, 52, 53, 54, 55, 56, 57, 58, 59, 60, 61, 62, 63, 64, 65] (by decide +kernel) (by decide +kernel)
set_option maxRecDepth 20000 in
theorem gX6_work_X6_atHulk : GoodIn wsX6_work (wsV RX6 103 RX6 yX6_atHulk wsX6_atHulk) := goodIn_app (goodIn_of _ (by decide +kernel)) ggX6_work_X6_atHulk
set_option maxRecDepth 20000 in
theorem ggX6_work_X6_atSteamer : GoodIn wsX6_work wsX6_atSteamer := goodIn_r _ [31, 32, 12, 33, 34, 13, 35, 36, 37, 38, 7, 39, 3, 14, 15, 16, 17, 18, 19, 20, 21, 22, 2, 44, 45, 46, 47, 48, 49, 50, 51, 52, 53, 54, 55, 56, 57, 58, 59, 60, 61, 62, 63, 64, 65] (by decide +kernel) (by decide +kernel)
set_option maxRecDepth 20000 in
theorem gX6_work_X6_atSteamer : GoodIn wsX6_work (wsV RX6 106 RX6 yX6_atSteamer wsX6_atSteamer) := goodIn_app (goodIn_of _ (by decide +kernel)) ggX6_work_X6_atSteamer
set_option maxRecDepth 20000 in
theorem ggX6_work_X6_goOn : GoodIn wsX6_work wsX6_goOn := goodIn_r _ [43, 14, 3, 23, 24, 25, 7, 26, 2, 1, 27, 44, 45, 46, 47, 48, 49, 50, 51, 52, 53, 54, 55, 56, 57, 58, 59, 60, 61, 62, 63, 64, 65] (by decide +kernel) (by decide +kernel)
set_option maxRecDepth 20000 in
theorem gX6_work_X6_goOn : GoodIn wsX6_work (wsV RX6 109 RX6 yX6_goOn wsX6_goOn) := goodIn_app (goodIn_of _ (by decide +kernel)) ggX6_work_X6_goOn
theorem dX6_work_0 : decode cX6_work 0 = .ok (.aload_n 0, 1) := by decide +kernel
theorem dX6_work_1 : decode cX6_work 1 = .ok (.getfield 40, 3) := by decide +kernel
theorem dX6_work_4 : decode cX6_work 4 = .ok (.aload_n 0, 1) := by decide +kernel
theorem dX6_work_5 : decode cX6_work 5 = .ok (.getfield 28, 3) := by decide +kernel
theorem dX6_work_8 : decode cX6_work 8 = .ok (.iload_n 1, 1) := by decide +kernel
theorem dX6_work_9 : decode cX6_work 9 = .ok (.iaload, 1) := by decide +kernel
theorem dX6_work_10 : decode cX6_work 10 = .ok (.dup2, 1) := by decide +kernel
theorem dX6_work_11 : decode cX6_work 11 = .ok (.iaload, 1) := by decide +kernel
theorem dX6_work_12 : decode cX6_work 12 = .ok (.iconst 1, 1) := by decide +kernel
theorem dX6_work_13 : decode cX6_work 13 = .ok (.iadd, 1) := by decide +kernel
theorem dX6_work_14 : decode cX6_work 14 = .ok (.iastore, 1) := by decide +kernel
theorem dX6_work_15 : decode cX6_work 15 = .ok (.aload_n 0, 1) := by decide +kernel
theorem dX6_work_16 : decode cX6_work 16 = .ok (.getfield 22, 3) := by decide +kernel
theorem dX6_work_19 : decode cX6_work 19 = .ok (.iload_n 1, 1) := by decide +kernel
theorem dX6_work_20 : decode cX6_work 20 = .ok (.iaload, 1) := by decide +kernel
theorem dX6_work_21 : decode cX6_work 21 = .ok (.ifCond .ne 11, 3) := by decide +kernel
theorem dX6_work_24 : decode cX6_work 24 = .ok (.aload_n 0, 1) := by decide +kernel
theorem dX6_work_25 : decode cX6_work 25 = .ok (.iload_n 1, 1) := by decide +kernel
theorem dX6_work_26 : decode cX6_work 26 = .ok (.invokevirtual 103, 3) := by decide +kernel
theorem dX6_work_29 : decode cX6_work 29 = .ok (.goto 26, 3) := by decide +kernel
theorem dX6_work_32 : decode cX6_work 32 = .ok (.aload_n 0, 1) := by decide +kernel
theorem dX6_work_33 : decode cX6_work 33 = .ok (.getfield 22, 3) := by decide +kernel
theorem dX6_work_36 : decode cX6_work 36 = .ok (.iload_n 1, 1) := by decide +kernel
theorem dX6_work_37 : decode cX6_work 37 = .ok (.iaload, 1) := by decide +kernel
theorem dX6_work_38 : decode cX6_work 38 = .ok (.iconst 2, 1) := by decide +kernel
theorem dX6_work_39 : decode cX6_work 39 = .ok (.if_icmp .ne 11, 3) := by decide +kernel
theorem dX6_work_42 : decode cX6_work 42 = .ok (.aload_n 0, 1) := by decide +kernel
theorem dX6_work_43 : decode cX6_work 43 = .ok (.iload_n 1, 1) := by decide +kernel
theorem dX6_work_44 : decode cX6_work 44 = .ok (.invokevirtual 106, 3) := by decide +kernel
theorem dX6_work_47 : decode cX6_work 47 = .ok (.goto 8, 3) := by decide +kernel
theorem dX6_work_50 : decode cX6_work 50 = .ok (.aload_n 0, 1) := by decide +kernel
theorem dX6_work_51 : decode cX6_work 51 = .ok (.iload_n 1, 1) := by decide +kernel
theorem dX6_work_52 : decode cX6_work 52 = .ok (.invokevirtual 109, 3) := by decide +kernel
theorem dX6_work_55 : decode cX6_work 55 = .ok (.return_, 1) := by decide +kernel
set_option maxRecDepth 20000 in
theorem ggX6_leave_X6_endOrder : GoodIn wsX6_leave wsX6_endOrder := goodIn_r _ [11, 4, 6, 12, 13, 19, 20, 21, 22, 23, 24, 25, 26, 27, 28, 29, 30, 31, 32, 33, 34, 35, 36, 37, 38, 39, 40] (by decide +kernel) (by decide +kernel)
set_option maxRecDepth 20000 in
theorem gX6_leave_X6_endOrder : GoodIn wsX6_leave (wsV RX6 93 RX6 yX6_endOrder wsX6_endOrder) := goodIn_app (goodIn_of _ (by decide +kernel)) ggX6_leave_X6_endOrder
set_option maxRecDepth 20000 in
theorem ggX6_leave_X6_turnHome : GoodIn wsX6_leave wsX6_turnHome := goodIn_r _ [17, 6, 18, 19, 20, 21, 22, 23, 24, 25, 26, 27, 28, 29, 30, 31, 32, 33, 34, 35, 36, 37, 38, 39, 40] (by decide +kernel) (by decide +kernel)
set_option maxRecDepth 20000 in
theorem gX6_leave_X6_turnHome : GoodIn wsX6_leave (wsV RX6 97 RX6 yX6_turnHome wsX6_turnHome) := goodIn_app (goodIn_of _ (by decide +kernel)) ggX6_leave_X6_turnHome
theorem dX6_leave_0 : decode cX6_leave 0 = .ok (.aload_n 0, 1) := by decide +kernel
theorem dX6_leave_1 : decode cX6_leave 1 = .ok (.getfield 52, 3) := by decide +kernel
theorem dX6_leave_4 : decode cX6_leave 4 = .ok (.iload_n 1, 1) := by decide +kernel
theorem dX6_leave_5 : decode cX6_leave 5 = .ok (.aload_n 0, 1) := by decide +kernel
theorem dX6_leave_6 : decode cX6_leave 6 = .ok (.getfield 46, 3) := by decide +kernel
theorem dX6_leave_9 : decode cX6_leave 9 = .ok (.iload_n 1, 1) := by decide +kernel
theorem dX6_leave_10 : decode cX6_leave 10 = .ok (.iaload, 1) := by decide +kernel
theorem dX6_leave_11 : decode cX6_leave 11 = .ok (.ifCond .ne 7, 3) := by decide +kernel
theorem dX6_leave_14 : decode cX6_leave 14 = .ok (.iconst 2, 1) := by decide +kernel
theorem dX6_leave_15 : decode cX6_leave 15 = .ok (.goto 4, 3) := by decide +kernel
theorem dX6_leave_18 : decode cX6_leave 18 = .ok (.iconst 3, 1) := by decide +kernel
theorem dX6_leave_19 : decode cX6_leave 19 = .ok (.iastore, 1) := by decide +kernel
theorem dX6_leave_20 : decode cX6_leave 20 = .ok (.iconst 0, 1) := by decide +kernel
theorem dX6_leave_21 : decode cX6_leave 21 = .ok (.istore_n 2, 1) := by decide +kernel
theorem dX6_leave_22 : decode cX6_leave 22 = .ok (.iload_n 2, 1) := by decide +kernel
theorem dX6_leave_23 : decode cX6_leave 23 = .ok (.aload_n 0, 1) := by decide +kernel
theorem dX6_leave_24 : decode cX6_leave 24 = .ok (.getfield 65, 3) := by decide +kernel
theorem dX6_leave_27 : decode cX6_leave 27 = .ok (.if_icmp .ge 64, 3) := by decide +kernel
theorem dX6_leave_30 : decode cX6_leave 30 = .ok (.aload_n 0, 1) := by decide +kernel
theorem dX6_leave_31 : decode cX6_leave 31 = .ok (.getfield 28, 3) := by decide +kernel
theorem dX6_leave_34 : decode cX6_leave 34 = .ok (.iload_n 2, 1) := by decide +kernel
theorem dX6_leave_35 : decode cX6_leave 35 = .ok (.iaload, 1) := by decide +kernel
theorem dX6_leave_36 : decode cX6_leave 36 = .ok (.iconst (-1), 1) := by decide +kernel
theorem dX6_leave_37 : decode cX6_leave 37 = .ok (.if_icmp .eq 48, 3) := by decide +kernel
theorem dX6_leave_40 : decode cX6_leave 40 = .ok (.aload_n 0, 1) := by decide +kernel
theorem dX6_leave_41 : decode cX6_leave 41 = .ok (.getfield 31, 3) := by decide +kernel
theorem dX6_leave_44 : decode cX6_leave 44 = .ok (.iload_n 2, 1) := by decide +kernel
theorem dX6_leave_45 : decode cX6_leave 45 = .ok (.iaload, 1) := by decide +kernel
theorem dX6_leave_46 : decode cX6_leave 46 = .ok (.iload_n 1, 1) := by decide +kernel
theorem dX6_leave_47 : decode cX6_leave 47 = .ok (.if_icmp .eq 6, 3) := by decide +kernel
theorem dX6_leave_50 : decode cX6_leave 50 = .ok (.goto 35, 3) := by decide +kernel
theorem dX6_leave_53 : decode cX6_leave 53 = .ok (.aload_n 0, 1) := by decide +kernel
theorem dX6_leave_54 : decode cX6_leave 54 = .ok (.getfield 22, 3) := by decide +kernel
theorem dX6_leave_57 : decode cX6_leave 57 = .ok (.iload_n 2, 1) := by decide +kernel
theorem dX6_leave_58 : decode cX6_leave 58 = .ok (.iaload, 1) := by decide +kernel
theorem dX6_leave_59 : decode cX6_leave 59 = .ok (.ifCond .ne 11, 3) := by decide +kernel
theorem dX6_leave_62 : decode cX6_leave 62 = .ok (.aload_n 0, 1) := by decide +kernel
theorem dX6_leave_63 : decode cX6_leave 63 = .ok (.iload_n 2, 1) := by decide +kernel
theorem dX6_leave_64 : decode cX6_leave 64 = .ok (.invokevirtual 93, 3) := by decide +kernel
theorem dX6_leave_67 : decode cX6_leave 67 = .ok (.goto 18, 3) := by decide +kernel
theorem dX6_leave_70 : decode cX6_leave 70 = .ok (.aload_n 0, 1) := by decide +kernel
theorem dX6_leave_71 : decode cX6_leave 71 = .ok (.getfield 22, 3) := by decide +kernel
theorem dX6_leave_74 : decode cX6_leave 74 = .ok (.iload_n 2, 1) := by decide +kernel
theorem dX6_leave_75 : decode cX6_leave 75 = .ok (.iaload, 1) := by decide +kernel
theorem dX6_leave_76 : decode cX6_leave 76 = .ok (.iconst 3, 1) := by decide +kernel
theorem dX6_leave_77 : decode cX6_leave 77 = .ok (.if_icmp .ge 8, 3) := by decide +kernel
theorem dX6_leave_80 : decode cX6_leave 80 = .ok (.aload_n 0, 1) := by decide +kernel
theorem dX6_leave_81 : decode cX6_leave 81 = .ok (.iload_n 2, 1) := by decide +kernel
theorem dX6_leave_82 : decode cX6_leave 82 = .ok (.invokevirtual 97, 3) := by decide +kernel
theorem dX6_leave_85 : decode cX6_leave 85 = .ok (.iinc 2 1, 3) := by decide +kernel
theorem dX6_leave_88 : decode cX6_leave 88 = .ok (.goto (-66), 3) := by decide +kernel
theorem dX6_leave_91 : decode cX6_leave 91 = .ok (.return_, 1) := by decide +kernel
set_option maxRecDepth 20000 in
theorem ggX6_hourOnce_X6_many : GoodIn wsX6_hourOnce wsX6_many := goodIn_r _ [14, 3, 4, 61, 62, 63, 64, 65, 66, 67, 68, 69, 70, 71, 72, 73, 74, 75, 76, 77, 78, 79, 80, 81, 82] (by decide +kernel) (by decide +kernel)
set_option maxRecDepth 20000 in
theorem gX6_hourOnce_X6_many : GoodIn wsX6_hourOnce (wsV RX6 71 RX6 yX6_many wsX6_many) := goodIn_app (goodIn_of _ (by decide +kernel)) ggX6_hourOnce_X6_many
set_option maxRecDepth 20000 in
theorem ggX6_hourOnce_X6_work : GoodIn wsX6_hourOnce wsX6_work := goodIn_r _ [18, 19, 6, 20, 21, 22, 23, 13, 24, 25, 26, 27, 28, 29, 30, 31, 32, 33, 34, 35, 36, 37, 38, 39, 40, 41, 42, 2, 43, 44, 45, 46, 47, 4, 8, 48, 49, 50, 51, 52, 53, 54, 55, 56, 61, 62, 63, 64, 65, 66, 67, 68, 69, 70, 71, 72, 73, 74, 75, 76, 77, 78, 79, 80, 81, 82] (by decide +kernel) (by decide +kernel)
set_option maxRecDepth 20000 in
theorem gX6_hourOnce_X6_work : GoodIn wsX6_hourOnce (wsV RX6 112 RX6 yX6_work wsX6_work) := goodIn_app (goodIn_of _ (by decide +kernel)) ggX6_hourOnce_X6_work
set_option maxRecDepth 20000 in
theorem ggX6_hourOnce_X6_leave : GoodIn wsX6_hourOnce wsX6_leave := goodIn_r _ [60, 4, 8, 5, 6, 47, 20, 39, 40, 41, 13, 42, 19, 2, 49, 50, 51, 52, 30, 61, 62, 63, 64, 65, 66, 67, 68, 69, 70, 71, 72, 73, 74, 75, 76, 77, 78, 79, 80, 81, 82] (by decide +kernel) (by decide +kernel)
set_option maxRecDepth 20000 in
theorem gX6_hourOnce_X6_leave : GoodIn wsX6_hourOnce (wsV RX6 115 RX6 yX6_leave wsX6_leave) := goodIn_app (goodIn_of _ (by decide +kernel)) ggX6_hourOnce_X6_leave
theorem dX6_hourOnce_0 : decode cX6_hourOnce 0 = .ok (.iconst 0, 1) := by decide +kernel
theorem dX6_hourOnce_1 : decode cX6_hourOnce 1 = .ok (.istore_n 1, 1) := by decide +kernel
theorem dX6_hourOnce_2 : decode cX6_hourOnce 2 = .ok (.iload_n 1, 1) := by decide +kernel
theorem dX6_hourOnce_3 : decode cX6_hourOnce 3 = .ok (.aload_n 0, 1) := by decide +kernel
theorem dX6_hourOnce_4 : decode cX6_hourOnce 4 = .ok (.getfield 68, 3) := by decide +kernel
theorem dX6_hourOnce_7 : decode cX6_hourOnce 7 = .ok (.if_icmp .ge 32, 3) := by decide +kernel
theorem dX6_hourOnce_10 : decode cX6_hourOnce 10 = .ok (.aload_n 0, 1) := by decide +kernel
theorem dX6_hourOnce_11 : decode cX6_hourOnce 11 = .ok (.getfield 43, 3) := by decide +kernel
theorem dX6_hourOnce_14 : decode cX6_hourOnce 14 = .ok (.iload_n 1, 1) := by decide +kernel
theorem dX6_hourOnce_15 : decode cX6_hourOnce 15 = .ok (.dup2, 1) := by decide +kernel
theorem dX6_hourOnce_16 : decode cX6_hourOnce 16 = .ok (.iaload, 1) := by decide +kernel
theorem dX6_hourOnce_17 : decode cX6_hourOnce 17 = .ok (.aload_n 0, 1) := by decide +kernel
theorem dX6_hourOnce_18 : decode cX6_hourOnce 18 = .ok (.getfield 43, 3) := by decide +kernel
theorem dX6_hourOnce_21 : decode cX6_hourOnce 21 = .ok (.iload_n 1, 1) := by decide +kernel
theorem dX6_hourOnce_22 : decode cX6_hourOnce 22 = .ok (.iaload, 1) := by decide +kernel
theorem dX6_hourOnce_23 : decode cX6_hourOnce 23 = .ok (.ifCond .le 7, 3) := by decide +kernel
theorem dX6_hourOnce_26 : decode cX6_hourOnce 26 = .ok (.iconst 1, 1) := by decide +kernel
theorem dX6_hourOnce_27 : decode cX6_hourOnce 27 = .ok (.goto 4, 3) := by decide +kernel
theorem dX6_hourOnce_30 : decode cX6_hourOnce 30 = .ok (.iconst 0, 1) := by decide +kernel
theorem dX6_hourOnce_31 : decode cX6_hourOnce 31 = .ok (.isub, 1) := by decide +kernel
theorem dX6_hourOnce_32 : decode cX6_hourOnce 32 = .ok (.iastore, 1) := by decide +kernel
theorem dX6_hourOnce_33 : decode cX6_hourOnce 33 = .ok (.iinc 1 1, 3) := by decide +kernel
theorem dX6_hourOnce_36 : decode cX6_hourOnce 36 = .ok (.goto (-34), 3) := by decide +kernel
theorem dX6_hourOnce_39 : decode cX6_hourOnce 39 = .ok (.iconst 0, 1) := by decide +kernel
theorem dX6_hourOnce_40 : decode cX6_hourOnce 40 = .ok (.istore_n 1, 1) := by decide +kernel
theorem dX6_hourOnce_41 : decode cX6_hourOnce 41 = .ok (.iload_n 1, 1) := by decide +kernel
theorem dX6_hourOnce_42 : decode cX6_hourOnce 42 = .ok (.aload_n 0, 1) := by decide +kernel
theorem dX6_hourOnce_43 : decode cX6_hourOnce 43 = .ok (.getfield 59, 3) := by decide +kernel
theorem dX6_hourOnce_46 : decode cX6_hourOnce 46 = .ok (.if_icmp .ge 43, 3) := by decide +kernel
theorem dX6_hourOnce_49 : decode cX6_hourOnce 49 = .ok (.aload_n 0, 1) := by decide +kernel
theorem dX6_hourOnce_50 : decode cX6_hourOnce 50 = .ok (.getfield 52, 3) := by decide +kernel
theorem dX6_hourOnce_53 : decode cX6_hourOnce 53 = .ok (.iload_n 1, 1) := by decide +kernel
theorem dX6_hourOnce_54 : decode cX6_hourOnce 54 = .ok (.aload_n 0, 1) := by decide +kernel
theorem dX6_hourOnce_55 : decode cX6_hourOnce 55 = .ok (.getfield 52, 3) := by decide +kernel
theorem dX6_hourOnce_58 : decode cX6_hourOnce 58 = .ok (.iload_n 1, 1) := by decide +kernel
theorem dX6_hourOnce_59 : decode cX6_hourOnce 59 = .ok (.iaload, 1) := by decide +kernel
theorem dX6_hourOnce_60 : decode cX6_hourOnce 60 = .ok (.ifCond .ne 16, 3) := by decide +kernel
theorem dX6_hourOnce_63 : decode cX6_hourOnce 63 = .ok (.aload_n 0, 1) := by decide +kernel
theorem dX6_hourOnce_64 : decode cX6_hourOnce 64 = .ok (.iconst 1, 1) := by decide +kernel
theorem dX6_hourOnce_65 : decode cX6_hourOnce 65 = .ok (.invokevirtual 71, 3) := by decide +kernel
theorem dX6_hourOnce_68 : decode cX6_hourOnce 68 = .ok (.iconst 2, 1) := by decide +kernel
theorem dX6_hourOnce_69 : decode cX6_hourOnce 69 = .ok (.if_icmp .ge 7, 3) := by decide +kernel
theorem dX6_hourOnce_72 : decode cX6_hourOnce 72 = .ok (.iconst 1, 1) := by decide +kernel
theorem dX6_hourOnce_73 : decode cX6_hourOnce 73 = .ok (.goto 9, 3) := by decide +kernel
theorem dX6_hourOnce_76 : decode cX6_hourOnce 76 = .ok (.aload_n 0, 1) := by decide +kernel
theorem dX6_hourOnce_77 : decode cX6_hourOnce 77 = .ok (.getfield 52, 3) := by decide +kernel
theorem dX6_hourOnce_80 : decode cX6_hourOnce 80 = .ok (.iload_n 1, 1) := by decide +kernel
theorem dX6_hourOnce_81 : decode cX6_hourOnce 81 = .ok (.iaload, 1) := by decide +kernel
theorem dX6_hourOnce_82 : decode cX6_hourOnce 82 = .ok (.iastore, 1) := by decide +kernel
theorem dX6_hourOnce_83 : decode cX6_hourOnce 83 = .ok (.iinc 1 1, 3) := by decide +kernel
theorem dX6_hourOnce_86 : decode cX6_hourOnce 86 = .ok (.goto (-45), 3) := by decide +kernel
theorem dX6_hourOnce_89 : decode cX6_hourOnce 89 = .ok (.iconst 0, 1) := by decide +kernel
theorem dX6_hourOnce_90 : decode cX6_hourOnce 90 = .ok (.istore_n 1, 1) := by decide +kernel
theorem dX6_hourOnce_91 : decode cX6_hourOnce 91 = .ok (.iload_n 1, 1) := by decide +kernel
theorem dX6_hourOnce_92 : decode cX6_hourOnce 92 = .ok (.aload_n 0, 1) := by decide +kernel
theorem dX6_hourOnce_93 : decode cX6_hourOnce 93 = .ok (.getfield 65, 3) := by decide +kernel
theorem dX6_hourOnce_96 : decode cX6_hourOnce 96 = .ok (.if_icmp .ge 24, 3) := by decide +kernel
theorem dX6_hourOnce_99 : decode cX6_hourOnce 99 = .ok (.aload_n 0, 1) := by decide +kernel
theorem dX6_hourOnce_100 : decode cX6_hourOnce 100 = .ok (.getfield 28, 3) := by decide +kernel
theorem dX6_hourOnce_103 : decode cX6_hourOnce 103 = .ok (.iload_n 1, 1) := by decide +kernel
theorem dX6_hourOnce_104 : decode cX6_hourOnce 104 = .ok (.iaload, 1) := by decide +kernel
theorem dX6_hourOnce_105 : decode cX6_hourOnce 105 = .ok (.iconst (-1), 1) := by decide +kernel
theorem dX6_hourOnce_106 : decode cX6_hourOnce 106 = .ok (.if_icmp .eq 8, 3) := by decide +kernel
theorem dX6_hourOnce_109 : decode cX6_hourOnce 109 = .ok (.aload_n 0, 1) := by decide +kernel
theorem dX6_hourOnce_110 : decode cX6_hourOnce 110 = .ok (.iload_n 1, 1) := by decide +kernel
theorem dX6_hourOnce_111 : decode cX6_hourOnce 111 = .ok (.invokevirtual 112, 3) := by decide +kernel
theorem dX6_hourOnce_114 : decode cX6_hourOnce 114 = .ok (.iinc 1 1, 3) := by decide +kernel
theorem dX6_hourOnce_117 : decode cX6_hourOnce 117 = .ok (.goto (-26), 3) := by decide +kernel
theorem dX6_hourOnce_120 : decode cX6_hourOnce 120 = .ok (.iconst 0, 1) := by decide +kernel
theorem dX6_hourOnce_121 : decode cX6_hourOnce 121 = .ok (.istore_n 1, 1) := by decide +kernel
theorem dX6_hourOnce_122 : decode cX6_hourOnce 122 = .ok (.aload_n 0, 1) := by decide +kernel
theorem dX6_hourOnce_123 : decode cX6_hourOnce 123 = .ok (.dup, 1) := by decide +kernel
theorem dX6_hourOnce_124 : decode cX6_hourOnce 124 = .ok (.getfield 75, 3) := by decide +kernel
theorem dX6_hourOnce_127 : decode cX6_hourOnce 127 = .ok (.iconst 1, 1) := by decide +kernel
theorem dX6_hourOnce_128 : decode cX6_hourOnce 128 = .ok (.iadd, 1) := by decide +kernel
theorem dX6_hourOnce_129 : decode cX6_hourOnce 129 = .ok (.putfield 75, 3) := by decide +kernel
theorem dX6_hourOnce_132 : decode cX6_hourOnce 132 = .ok (.iconst 0, 1) := by decide +kernel
theorem dX6_hourOnce_133 : decode cX6_hourOnce 133 = .ok (.istore_n 2, 1) := by decide +kernel
theorem dX6_hourOnce_134 : decode cX6_hourOnce 134 = .ok (.iload_n 2, 1) := by decide +kernel
theorem dX6_hourOnce_135 : decode cX6_hourOnce 135 = .ok (.aload_n 0, 1) := by decide +kernel
theorem dX6_hourOnce_136 : decode cX6_hourOnce 136 = .ok (.getfield 59, 3) := by decide +kernel
theorem dX6_hourOnce_139 : decode cX6_hourOnce 139 = .ok (.if_icmp .ge 49, 3) := by decide +kernel
theorem dX6_hourOnce_142 : decode cX6_hourOnce 142 = .ok (.aload_n 0, 1) := by decide +kernel
theorem dX6_hourOnce_143 : decode cX6_hourOnce 143 = .ok (.getfield 52, 3) := by decide +kernel
theorem dX6_hourOnce_146 : decode cX6_hourOnce 146 = .ok (.iload_n 2, 1) := by decide +kernel
theorem dX6_hourOnce_147 : decode cX6_hourOnce 147 = .ok (.iaload, 1) := by decide +kernel
theorem dX6_hourOnce_148 : decode cX6_hourOnce 148 = .ok (.iconst 2, 1) := by decide +kernel
theorem dX6_hourOnce_149 : decode cX6_hourOnce 149 = .ok (.if_icmp .ge 33, 3) := by decide +kernel
theorem dX6_hourOnce_152 : decode cX6_hourOnce 152 = .ok (.aload_n 0, 1) := by decide +kernel
theorem dX6_hourOnce_153 : decode cX6_hourOnce 153 = .ok (.getfield 46, 3) := by decide +kernel
theorem dX6_hourOnce_156 : decode cX6_hourOnce 156 = .ok (.iload_n 2, 1) := by decide +kernel
theorem dX6_hourOnce_157 : decode cX6_hourOnce 157 = .ok (.iaload, 1) := by decide +kernel
theorem dX6_hourOnce_158 : decode cX6_hourOnce 158 = .ok (.ifCond .eq 16, 3) := by decide +kernel
theorem dX6_hourOnce_161 : decode cX6_hourOnce 161 = .ok (.aload_n 0, 1) := by decide +kernel
theorem dX6_hourOnce_162 : decode cX6_hourOnce 162 = .ok (.getfield 49, 3) := by decide +kernel
theorem dX6_hourOnce_165 : decode cX6_hourOnce 165 = .ok (.iload_n 2, 1) := by decide +kernel
theorem dX6_hourOnce_166 : decode cX6_hourOnce 166 = .ok (.iaload, 1) := by decide +kernel
theorem dX6_hourOnce_167 : decode cX6_hourOnce 167 = .ok (.aload_n 0, 1) := by decide +kernel
theorem dX6_hourOnce_168 : decode cX6_hourOnce 168 = .ok (.getfield 75, 3) := by decide +kernel
theorem dX6_hourOnce_171 : decode cX6_hourOnce 171 = .ok (.if_icmp .ne 11, 3) := by decide +kernel
theorem dX6_hourOnce_174 : decode cX6_hourOnce 174 = .ok (.aload_n 0, 1) := by decide +kernel
theorem dX6_hourOnce_175 : decode cX6_hourOnce 175 = .ok (.iload_n 2, 1) := by decide +kernel
theorem dX6_hourOnce_176 : decode cX6_hourOnce 176 = .ok (.invokevirtual 115, 3) := by decide +kernel
theorem dX6_hourOnce_179 : decode cX6_hourOnce 179 = .ok (.iinc 1 1, 3) := by decide +kernel
theorem dX6_hourOnce_182 : decode cX6_hourOnce 182 = .ok (.iinc 2 1, 3) := by decide +kernel
theorem dX6_hourOnce_185 : decode cX6_hourOnce 185 = .ok (.goto (-51), 3) := by decide +kernel
theorem dX6_hourOnce_188 : decode cX6_hourOnce 188 = .ok (.iload_n 1, 1) := by decide +kernel
theorem dX6_hourOnce_189 : decode cX6_hourOnce 189 = .ok (.ireturn, 1) := by decide +kernel
set_option maxRecDepth 20000 in
theorem ggX6_hours_X6_hourOnce : GoodIn wsX6_hours wsX6_hourOnce := goodIn_r _ [6, 7, 8, 9, 10, 11, 12, 13, 14, 15, 16, 17, 18, 5, 19, 20, 21, 22, 23, 24, 25, 26, 27, 28, 29, 30, 31, 32, 33, 34, 35, 36, 37, 38, 39, 40, 41, 42, 43, 44, 45, 46, 47, 48, 49, 50, 51, 52, 53, 54, 55, 56, 57, 58, 59, 60, 61, 62, 63, 64, 65, 66, 67, 68, 69, 70, 71, 72, 73, 74, 75, 76, 77, 78, 79, 80, 81, 82, 83, 84, 85, 86, 87] (by decide +kernel) (by decide +kernel)
set_option maxRecDepth 20000 in
theorem gX6_hours_X6_hourOnce : GoodIn wsX6_hours (wsV RX6 118 RX6 yX6_hourOnce wsX6_hourOnce) := goodIn_app (goodIn_of _ (by decide +kernel)) ggX6_hours_X6_hourOnce
theorem dX6_hours_0 : decode cX6_hours 0 = .ok (.aload_n 0, 1) := by decide +kernel
theorem dX6_hours_1 : decode cX6_hours 1 = .ok (.iload_n 1, 1) := by decide +kernel
theorem dX6_hours_2 : decode cX6_hours 2 = .ok (.iconst 1, 1) := by decide +kernel
theorem dX6_hours_3 : decode cX6_hours 3 = .ok (.if_icmp .lt 10, 3) := by decide +kernel
theorem dX6_hours_6 : decode cX6_hours 6 = .ok (.iload_n 1, 1) := by decide +kernel
theorem dX6_hours_7 : decode cX6_hours 7 = .ok (.sipush 500, 3) := by decide +kernel
theorem dX6_hours_10 : decode cX6_hours 10 = .ok (.if_icmp .le 7, 3) := by decide +kernel
theorem dX6_hours_13 : decode cX6_hours 13 = .ok (.iconst 1, 1) := by decide +kernel
theorem dX6_hours_14 : decode cX6_hours 14 = .ok (.goto 4, 3) := by decide +kernel
theorem dX6_hours_17 : decode cX6_hours 17 = .ok (.iconst 0, 1) := by decide +kernel
theorem dX6_hours_18 : decode cX6_hours 18 = .ok (.putfield 55, 3) := by decide +kernel
theorem dX6_hours_21 : decode cX6_hours 21 = .ok (.iconst 0, 1) := by decide +kernel
theorem dX6_hours_22 : decode cX6_hours 22 = .ok (.istore_n 2, 1) := by decide +kernel
theorem dX6_hours_23 : decode cX6_hours 23 = .ok (.iconst 0, 1) := by decide +kernel
theorem dX6_hours_24 : decode cX6_hours 24 = .ok (.istore_n 3, 1) := by decide +kernel
theorem dX6_hours_25 : decode cX6_hours 25 = .ok (.iload_n 3, 1) := by decide +kernel
theorem dX6_hours_26 : decode cX6_hours 26 = .ok (.iload_n 1, 1) := by decide +kernel
theorem dX6_hours_27 : decode cX6_hours 27 = .ok (.if_icmp .ge 23, 3) := by decide +kernel
theorem dX6_hours_30 : decode cX6_hours 30 = .ok (.aload_n 0, 1) := by decide +kernel
theorem dX6_hours_31 : decode cX6_hours 31 = .ok (.getfield 55, 3) := by decide +kernel
theorem dX6_hours_34 : decode cX6_hours 34 = .ok (.ifCond .ne 16, 3) := by decide +kernel
theorem dX6_hours_37 : decode cX6_hours 37 = .ok (.iload_n 2, 1) := by decide +kernel
theorem dX6_hours_38 : decode cX6_hours 38 = .ok (.aload_n 0, 1) := by decide +kernel
theorem dX6_hours_39 : decode cX6_hours 39 = .ok (.invokevirtual 118, 3) := by decide +kernel
theorem dX6_hours_42 : decode cX6_hours 42 = .ok (.iadd, 1) := by decide +kernel
theorem dX6_hours_43 : decode cX6_hours 43 = .ok (.istore_n 2, 1) := by decide +kernel
theorem dX6_hours_44 : decode cX6_hours 44 = .ok (.iinc 3 1, 3) := by decide +kernel
theorem dX6_hours_47 : decode cX6_hours 47 = .ok (.goto (-22), 3) := by decide +kernel
theorem dX6_hours_50 : decode cX6_hours 50 = .ok (.iload_n 2, 1) := by decide +kernel
theorem dX6_hours_51 : decode cX6_hours 51 = .ok (.ireturn, 1) := by decide +kernel
set_option maxRecDepth 20000 in
theorem ggX6_told_X6_is : GoodIn wsX6_told wsX6_is := goodIn_r _ [5] (by decide +kernel) (by decide +kernel)
set_option maxRecDepth 20000 in
theorem gX6_told_X6_is : GoodIn wsX6_told (va_wsS RX6 78 yX6_is wsX6_is) := goodIn_app (goodIn_of _ (by decide +kernel)) ggX6_told_X6_is
theorem dX6_told_0 : decode cX6_told 0 = .ok (.aload_n 0, 1) := by decide +kernel
theorem dX6_told_1 : decode cX6_told 1 = .ok (.iload_n 2, 1) := by decide +kernel
theorem dX6_told_2 : decode cX6_told 2 = .ok (.iload_n 3, 1) := by decide +kernel
theorem dX6_told_3 : decode cX6_told 3 = .ok (.invokestatic 78, 3) := by decide +kernel
theorem dX6_told_6 : decode cX6_told 6 = .ok (.ifCond .eq 7, 3) := by decide +kernel
theorem dX6_told_9 : decode cX6_told 9 = .ok (.iconst 0, 1) := by decide +kernel
theorem dX6_told_10 : decode cX6_told 10 = .ok (.goto 4, 3) := by decide +kernel
theorem dX6_told_13 : decode cX6_told 13 = .ok (.iconst 1, 1) := by decide +kernel
theorem dX6_told_14 : decode cX6_told 14 = .ok (.putfield 55, 3) := by decide +kernel
theorem dX6_told_17 : decode cX6_told 17 = .ok (.aload_n 0, 1) := by decide +kernel
theorem dX6_told_18 : decode cX6_told 18 = .ok (.getfield 55, 3) := by decide +kernel
theorem dX6_told_21 : decode cX6_told 21 = .ok (.ifCond .ne 9, 3) := by decide +kernel
theorem dX6_told_24 : decode cX6_told 24 = .ok (.aload_n 1, 1) := by decide +kernel
theorem dX6_told_25 : decode cX6_told 25 = .ok (.iload_n 2, 1) := by decide +kernel
theorem dX6_told_26 : decode cX6_told 26 = .ok (.iaload, 1) := by decide +kernel
theorem dX6_told_27 : decode cX6_told 27 = .ok (.goto 4, 3) := by decide +kernel
theorem dX6_told_30 : decode cX6_told 30 = .ok (.iconst 0, 1) := by decide +kernel
theorem dX6_told_31 : decode cX6_told 31 = .ok (.ireturn, 1) := by decide +kernel
theorem dX6_clock_0 : decode cX6_clock 0 = .ok (.aload_n 0, 1) := by decide +kernel
theorem dX6_clock_1 : decode cX6_clock 1 = .ok (.iconst 0, 1) := by decide +kernel
theorem dX6_clock_2 : decode cX6_clock 2 = .ok (.putfield 55, 3) := by decide +kernel
theorem dX6_clock_5 : decode cX6_clock 5 = .ok (.aload_n 0, 1) := by decide +kernel
theorem dX6_clock_6 : decode cX6_clock 6 = .ok (.getfield 75, 3) := by decide +kernel
theorem dX6_clock_9 : decode cX6_clock 9 = .ok (.ireturn, 1) := by decide +kernel
set_option maxRecDepth 20000 in
theorem ggX6_coalIn_X6_told : GoodIn wsX6_coalIn wsX6_told := goodIn_r _ [7, 8, 9, 10, 6, 11, 12, 13, 14, 15, 16, 17, 18, 19, 20, 21, 22, 23, 24, 25, 26, 27, 28, 29, 30, 31, 32, 33] (by decide +kernel) (by decide +kernel)
set_option maxRecDepth 20000 in
theorem gX6_coalIn_X6_told : GoodIn wsX6_coalIn (wsV RX6 122 RX6 yX6_told wsX6_told) := goodIn_app (goodIn_of _ (by decide +kernel)) ggX6_coalIn_X6_told
theorem dX6_coalIn_0 : decode cX6_coalIn 0 = .ok (.aload_n 0, 1) := by decide +kernel
theorem dX6_coalIn_1 : decode cX6_coalIn 1 = .ok (.aload_n 0, 1) := by decide +kernel
theorem dX6_coalIn_2 : decode cX6_coalIn 2 = .ok (.getfield 7, 3) := by decide +kernel
theorem dX6_coalIn_5 : decode cX6_coalIn 5 = .ok (.iload_n 1, 1) := by decide +kernel
theorem dX6_coalIn_6 : decode cX6_coalIn 6 = .ok (.aload_n 0, 1) := by decide +kernel
theorem dX6_coalIn_7 : decode cX6_coalIn 7 = .ok (.getfield 62, 3) := by decide +kernel
theorem dX6_coalIn_10 : decode cX6_coalIn 10 = .ok (.invokevirtual 122, 3) := by decide +kernel
theorem dX6_coalIn_13 : decode cX6_coalIn 13 = .ok (.ireturn, 1) := by decide +kernel
set_option maxRecDepth 20000 in
theorem ggX6_placeOf_X6_told : GoodIn wsX6_placeOf wsX6_told := goodIn_r _ [7, 8, 9, 10, 6, 11, 12, 13, 14, 15, 16, 17, 18, 19, 20, 21, 22, 23, 24, 25, 26, 27, 28, 29, 30, 31, 32, 33] (by decide +kernel) (by decide +kernel)
set_option maxRecDepth 20000 in
theorem gX6_placeOf_X6_told : GoodIn wsX6_placeOf (wsV RX6 122 RX6 yX6_told wsX6_told) := goodIn_app (goodIn_of _ (by decide +kernel)) ggX6_placeOf_X6_told
theorem dX6_placeOf_0 : decode cX6_placeOf 0 = .ok (.aload_n 0, 1) := by decide +kernel
theorem dX6_placeOf_1 : decode cX6_placeOf 1 = .ok (.aload_n 0, 1) := by decide +kernel
theorem dX6_placeOf_2 : decode cX6_placeOf 2 = .ok (.getfield 22, 3) := by decide +kernel
theorem dX6_placeOf_5 : decode cX6_placeOf 5 = .ok (.iload_n 1, 1) := by decide +kernel
theorem dX6_placeOf_6 : decode cX6_placeOf 6 = .ok (.aload_n 0, 1) := by decide +kernel
theorem dX6_placeOf_7 : decode cX6_placeOf 7 = .ok (.getfield 65, 3) := by decide +kernel
theorem dX6_placeOf_10 : decode cX6_placeOf 10 = .ok (.invokevirtual 122, 3) := by decide +kernel
theorem dX6_placeOf_13 : decode cX6_placeOf 13 = .ok (.ireturn, 1) := by decide +kernel
set_option maxRecDepth 20000 in
theorem ggX6_loadOf_X6_told : GoodIn wsX6_loadOf wsX6_told := goodIn_r _ [7, 8, 9, 10, 6, 11, 12, 13, 14, 15, 16, 17, 18, 19, 20, 21, 22, 23, 24, 25, 26, 27, 28, 29, 30, 31, 32, 33] (by decide +kernel) (by decide +kernel)
set_option maxRecDepth 20000 in
theorem gX6_loadOf_X6_told : GoodIn wsX6_loadOf (wsV RX6 122 RX6 yX6_told wsX6_told) := goodIn_app (goodIn_of _ (by decide +kernel)) ggX6_loadOf_X6_told
theorem dX6_loadOf_0 : decode cX6_loadOf 0 = .ok (.aload_n 0, 1) := by decide +kernel
theorem dX6_loadOf_1 : decode cX6_loadOf 1 = .ok (.aload_n 0, 1) := by decide +kernel
theorem dX6_loadOf_2 : decode cX6_loadOf 2 = .ok (.getfield 16, 3) := by decide +kernel
theorem dX6_loadOf_5 : decode cX6_loadOf 5 = .ok (.iload_n 1, 1) := by decide +kernel
theorem dX6_loadOf_6 : decode cX6_loadOf 6 = .ok (.aload_n 0, 1) := by decide +kernel
theorem dX6_loadOf_7 : decode cX6_loadOf 7 = .ok (.getfield 65, 3) := by decide +kernel
theorem dX6_loadOf_10 : decode cX6_loadOf 10 = .ok (.invokevirtual 122, 3) := by decide +kernel
theorem dX6_loadOf_13 : decode cX6_loadOf 13 = .ok (.ireturn, 1) := by decide +kernel
set_option maxRecDepth 20000 in
theorem ggX6_dustIn_X6_told : GoodIn wsX6_dustIn wsX6_told := goodIn_r _ [7, 8, 9, 10, 6, 11, 12, 13, 14, 15, 16, 17, 18, 19, 20, 21, 22, 23, 24, 25, 26, 27, 28, 29, 30, 31, 32, 33] (by decide +kernel) (by decide +kernel)
set_option maxRecDepth 20000 in
theorem gX6_dustIn_X6_told : GoodIn wsX6_dustIn (wsV RX6 122 RX6 yX6_told wsX6_told) := goodIn_app (goodIn_of _ (by decide +kernel)) ggX6_dustIn_X6_told
theorem dX6_dustIn_0 : decode cX6_dustIn 0 = .ok (.aload_n 0, 1) := by decide +kernel
theorem dX6_dustIn_1 : decode cX6_dustIn 1 = .ok (.aload_n 0, 1) := by decide +kernel
theorem dX6_dustIn_2 : decode cX6_dustIn 2 = .ok (.getfield 19, 3) := by decide +kernel
theorem dX6_dustIn_5 : decode cX6_dustIn 5 = .ok (.iload_n 1, 1) := by decide +kernel
theorem dX6_dustIn_6 : decode cX6_dustIn 6 = .ok (.aload_n 0, 1) := by decide +kernel
theorem dX6_dustIn_7 : decode cX6_dustIn 7 = .ok (.getfield 65, 3) := by decide +kernel
theorem dX6_dustIn_10 : decode cX6_dustIn 10 = .ok (.invokevirtual 122, 3) := by decide +kernel
theorem dX6_dustIn_13 : decode cX6_dustIn 13 = .ok (.ireturn, 1) := by decide +kernel
set_option maxRecDepth 20000 in
theorem ggX6_gangOn_X6_told : GoodIn wsX6_gangOn wsX6_told := goodIn_r _ [7, 8, 9, 10, 6, 11, 12, 13, 14, 15, 16, 17, 18, 19, 20, 21, 22, 23, 24, 25, 26, 27, 28, 29, 30, 31, 32, 33] (by decide +kernel) (by decide +kernel)
set_option maxRecDepth 20000 in
theorem gX6_gangOn_X6_told : GoodIn wsX6_gangOn (wsV RX6 122 RX6 yX6_told wsX6_told) := goodIn_app (goodIn_of _ (by decide +kernel)) ggX6_gangOn_X6_told
theorem dX6_gangOn_0 : decode cX6_gangOn 0 = .ok (.aload_n 0, 1) := by decide +kernel
theorem dX6_gangOn_1 : decode cX6_gangOn 1 = .ok (.aload_n 0, 1) := by decide +kernel
theorem dX6_gangOn_2 : decode cX6_gangOn 2 = .ok (.getfield 28, 3) := by decide +kernel
theorem dX6_gangOn_5 : decode cX6_gangOn 5 = .ok (.iload_n 1, 1) := by decide +kernel
theorem dX6_gangOn_6 : decode cX6_gangOn 6 = .ok (.aload_n 0, 1) := by decide +kernel
theorem dX6_gangOn_7 : decode cX6_gangOn 7 = .ok (.getfield 65, 3) := by decide +kernel
theorem dX6_gangOn_10 : decode cX6_gangOn 10 = .ok (.invokevirtual 122, 3) := by decide +kernel
theorem dX6_gangOn_13 : decode cX6_gangOn 13 = .ok (.ireturn, 1) := by decide +kernel
set_option maxRecDepth 20000 in
theorem ggX6_restOf_X6_told : GoodIn wsX6_restOf wsX6_told := goodIn_r _ [7, 8, 9, 10, 6, 11, 12, 13, 14, 15, 16, 17, 18, 19, 20, 21, 22, 23, 24, 25, 26, 27, 28, 29, 30, 31, 32, 33] (by decide +kernel) (by decide +kernel)
set_option maxRecDepth 20000 in
theorem gX6_restOf_X6_told : GoodIn wsX6_restOf (wsV RX6 122 RX6 yX6_told wsX6_told) := goodIn_app (goodIn_of _ (by decide +kernel)) ggX6_restOf_X6_told
theorem dX6_restOf_0 : decode cX6_restOf 0 = .ok (.aload_n 0, 1) := by decide +kernel
theorem dX6_restOf_1 : decode cX6_restOf 1 = .ok (.aload_n 0, 1) := by decide +kernel
theorem dX6_restOf_2 : decode cX6_restOf 2 = .ok (.getfield 43, 3) := by decide +kernel
theorem dX6_restOf_5 : decode cX6_restOf 5 = .ok (.iload_n 1, 1) := by decide +kernel
theorem dX6_restOf_6 : decode cX6_restOf 6 = .ok (.aload_n 0, 1) := by decide +kernel
theorem dX6_restOf_7 : decode cX6_restOf 7 = .ok (.getfield 68, 3) := by decide +kernel
theorem dX6_restOf_10 : decode cX6_restOf 10 = .ok (.invokevirtual 122, 3) := by decide +kernel
theorem dX6_restOf_13 : decode cX6_restOf 13 = .ok (.ireturn, 1) := by decide +kernel
set_option maxRecDepth 20000 in
theorem ggX6_fateOf_X6_told : GoodIn wsX6_fateOf wsX6_told := goodIn_r _ [7, 8, 9, 10, 6, 11, 12, 13, 14, 15, 16, 17, 18, 19, 20, 21, 22, 23, 24, 25, 26, 27, 28, 29, 30, 31, 32, 33] (by decide +kernel) (by decide +kernel)
set_option maxRecDepth 20000 in
theorem gX6_fateOf_X6_told : GoodIn wsX6_fateOf (wsV RX6 122 RX6 yX6_told wsX6_told) := goodIn_app (goodIn_of _ (by decide +kernel)) ggX6_fateOf_X6_told
theorem dX6_fateOf_0 : decode cX6_fateOf 0 = .ok (.aload_n 0, 1) := by decide +kernel
theorem dX6_fateOf_1 : decode cX6_fateOf 1 = .ok (.aload_n 0, 1) := by decide +kernel
theorem dX6_fateOf_2 : decode cX6_fateOf 2 = .ok (.getfield 52, 3) := by decide +kernel
theorem dX6_fateOf_5 : decode cX6_fateOf 5 = .ok (.iload_n 1, 1) := by decide +kernel
theorem dX6_fateOf_6 : decode cX6_fateOf 6 = .ok (.aload_n 0, 1) := by decide +kernel
theorem dX6_fateOf_7 : decode cX6_fateOf 7 = .ok (.getfield 59, 3) := by decide +kernel
theorem dX6_fateOf_10 : decode cX6_fateOf 10 = .ok (.invokevirtual 122, 3) := by decide +kernel
theorem dX6_fateOf_13 : decode cX6_fateOf 13 = .ok (.ireturn, 1) := by decide +kernel
set_option maxRecDepth 20000 in
theorem ggX6_wantOf_X6_told : GoodIn wsX6_wantOf wsX6_told := goodIn_r _ [7, 8, 9, 10, 6, 11, 12, 13, 14, 15, 16, 17, 18, 19, 20, 21, 22, 23, 24, 25, 26, 27, 28, 29, 30, 31, 32, 33] (by decide +kernel) (by decide +kernel)
set_option maxRecDepth 20000 in
theorem gX6_wantOf_X6_told : GoodIn wsX6_wantOf (wsV RX6 122 RX6 yX6_told wsX6_told) := goodIn_app (goodIn_of _ (by decide +kernel)) ggX6_wantOf_X6_told
theorem dX6_wantOf_0 : decode cX6_wantOf 0 = .ok (.aload_n 0, 1) := by decide +kernel
theorem dX6_wantOf_1 : decode cX6_wantOf 1 = .ok (.aload_n 0, 1) := by decide +kernel
theorem dX6_wantOf_2 : decode cX6_wantOf 2 = .ok (.getfield 46, 3) := by decide +kernel
theorem dX6_wantOf_5 : decode cX6_wantOf 5 = .ok (.iload_n 1, 1) := by decide +kernel
theorem dX6_wantOf_6 : decode cX6_wantOf 6 = .ok (.aload_n 0, 1) := by decide +kernel
theorem dX6_wantOf_7 : decode cX6_wantOf 7 = .ok (.getfield 59, 3) := by decide +kernel
theorem dX6_wantOf_10 : decode cX6_wantOf 10 = .ok (.invokevirtual 122, 3) := by decide +kernel
theorem dX6_wantOf_13 : decode cX6_wantOf 13 = .ok (.ireturn, 1) := by decide +kernel
theorem dX6_outside_0 : decode cX6_outside 0 = .ok (.aload_n 0, 1) := by decide +kernel
theorem dX6_outside_1 : decode cX6_outside 1 = .ok (.iload_n 1, 1) := by decide +kernel
theorem dX6_outside_2 : decode cX6_outside 2 = .ok (.ifCond .ge 7, 3) := by decide +kernel
theorem dX6_outside_5 : decode cX6_outside 5 = .ok (.iconst 1, 1) := by decide +kernel
theorem dX6_outside_6 : decode cX6_outside 6 = .ok (.goto 4, 3) := by decide +kernel
theorem dX6_outside_9 : decode cX6_outside 9 = .ok (.iconst 0, 1) := by decide +kernel
theorem dX6_outside_10 : decode cX6_outside 10 = .ok (.putfield 55, 3) := by decide +kernel
theorem dX6_outside_13 : decode cX6_outside 13 = .ok (.iload_n 1, 1) := by decide +kernel
theorem dX6_outside_14 : decode cX6_outside 14 = .ok (.istore_n 2, 1) := by decide +kernel
theorem dX6_outside_15 : decode cX6_outside 15 = .ok (.iconst 0, 1) := by decide +kernel
theorem dX6_outside_16 : decode cX6_outside 16 = .ok (.istore_n 3, 1) := by decide +kernel
theorem dX6_outside_17 : decode cX6_outside 17 = .ok (.iload_n 3, 1) := by decide +kernel
theorem dX6_outside_18 : decode cX6_outside 18 = .ok (.aload_n 0, 1) := by decide +kernel
theorem dX6_outside_19 : decode cX6_outside 19 = .ok (.getfield 59, 3) := by decide +kernel
theorem dX6_outside_22 : decode cX6_outside 22 = .ok (.if_icmp .ge 48, 3) := by decide +kernel
theorem dX6_outside_25 : decode cX6_outside 25 = .ok (.aload_n 0, 1) := by decide +kernel
theorem dX6_outside_26 : decode cX6_outside 26 = .ok (.getfield 55, 3) := by decide +kernel
theorem dX6_outside_29 : decode cX6_outside 29 = .ok (.ifCond .ne 41, 3) := by decide +kernel
theorem dX6_outside_32 : decode cX6_outside 32 = .ok (.aload_n 0, 1) := by decide +kernel
theorem dX6_outside_33 : decode cX6_outside 33 = .ok (.getfield 52, 3) := by decide +kernel
theorem dX6_outside_36 : decode cX6_outside 36 = .ok (.iload_n 3, 1) := by decide +kernel
theorem dX6_outside_37 : decode cX6_outside 37 = .ok (.iaload, 1) := by decide +kernel
theorem dX6_outside_38 : decode cX6_outside 38 = .ok (.ifCond .ne 9, 3) := by decide +kernel
theorem dX6_outside_41 : decode cX6_outside 41 = .ok (.iload_n 2, 1) := by decide +kernel
theorem dX6_outside_42 : decode cX6_outside 42 = .ok (.ifCond .ne 5, 3) := by decide +kernel
theorem dX6_outside_45 : decode cX6_outside 45 = .ok (.iload_n 3, 1) := by decide +kernel
theorem dX6_outside_46 : decode cX6_outside 46 = .ok (.ireturn, 1) := by decide +kernel
theorem dX6_outside_47 : decode cX6_outside 47 = .ok (.iload_n 2, 1) := by decide +kernel
theorem dX6_outside_48 : decode cX6_outside 48 = .ok (.aload_n 0, 1) := by decide +kernel
theorem dX6_outside_49 : decode cX6_outside 49 = .ok (.getfield 52, 3) := by decide +kernel
theorem dX6_outside_52 : decode cX6_outside 52 = .ok (.iload_n 3, 1) := by decide +kernel
theorem dX6_outside_53 : decode cX6_outside 53 = .ok (.iaload, 1) := by decide +kernel
theorem dX6_outside_54 : decode cX6_outside 54 = .ok (.ifCond .ne 7, 3) := by decide +kernel
theorem dX6_outside_57 : decode cX6_outside 57 = .ok (.iconst 1, 1) := by decide +kernel
theorem dX6_outside_58 : decode cX6_outside 58 = .ok (.goto 4, 3) := by decide +kernel
theorem dX6_outside_61 : decode cX6_outside 61 = .ok (.iconst 0, 1) := by decide +kernel
theorem dX6_outside_62 : decode cX6_outside 62 = .ok (.isub, 1) := by decide +kernel
theorem dX6_outside_63 : decode cX6_outside 63 = .ok (.istore_n 2, 1) := by decide +kernel
theorem dX6_outside_64 : decode cX6_outside 64 = .ok (.iinc 3 1, 3) := by decide +kernel
theorem dX6_outside_67 : decode cX6_outside 67 = .ok (.goto (-50), 3) := by decide +kernel
theorem dX6_outside_70 : decode cX6_outside 70 = .ok (.aload_n 0, 1) := by decide +kernel
theorem dX6_outside_71 : decode cX6_outside 71 = .ok (.getfield 55, 3) := by decide +kernel
theorem dX6_outside_74 : decode cX6_outside 74 = .ok (.ifCond .ne 7, 3) := by decide +kernel
theorem dX6_outside_77 : decode cX6_outside 77 = .ok (.iconst (-1), 1) := by decide +kernel
theorem dX6_outside_78 : decode cX6_outside 78 = .ok (.goto 4, 3) := by decide +kernel
theorem dX6_outside_81 : decode cX6_outside 81 = .ok (.iconst 0, 1) := by decide +kernel
theorem dX6_outside_82 : decode cX6_outside 82 = .ok (.ireturn, 1) := by decide +kernel
theorem dX6_delivered_0 : decode cX6_delivered 0 = .ok (.aload_n 0, 1) := by decide +kernel
theorem dX6_delivered_1 : decode cX6_delivered 1 = .ok (.iconst 0, 1) := by decide +kernel
theorem dX6_delivered_2 : decode cX6_delivered 2 = .ok (.putfield 55, 3) := by decide +kernel
theorem dX6_delivered_5 : decode cX6_delivered 5 = .ok (.aload_n 0, 1) := by decide +kernel
theorem dX6_delivered_6 : decode cX6_delivered 6 = .ok (.getfield 100, 3) := by decide +kernel
theorem dX6_delivered_9 : decode cX6_delivered 9 = .ok (.ireturn, 1) := by decide +kernel
