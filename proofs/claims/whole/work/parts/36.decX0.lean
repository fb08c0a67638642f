theorem dX0_init_0 : decode cX0_init 0 = .ok (.aload_n 0, 1) := by decide +kernel
theorem dX0_init_1 : decode cX0_init 1 = .ok (.invokespecial 3, 3) := by decide +kernel
theorem dX0_init_4 : decode cX0_init 4 = .ok (.aload_n 0, 1) := by decide +kernel
theorem dX0_init_5 : decode cX0_init 5 = .ok (.bipush 12, 2) := by decide +kernel
theorem dX0_init_7 : decode cX0_init 7 = .ok (.newarray .int, 2) := by decide +kernel
theorem dX0_init_9 : decode cX0_init 9 = .ok (.putfield 9, 3) := by decide +kernel
theorem dX0_init_12 : decode cX0_init 12 = .ok (.aload_n 0, 1) := by decide +kernel
theorem dX0_init_13 : decode cX0_init 13 = .ok (.bipush 12, 2) := by decide +kernel
theorem dX0_init_15 : decode cX0_init 15 = .ok (.newarray .int, 2) := by decide +kernel
theorem dX0_init_17 : decode cX0_init 17 = .ok (.putfield 15, 3) := by decide +kernel
theorem dX0_init_20 : decode cX0_init 20 = .ok (.aload_n 0, 1) := by decide +kernel
theorem dX0_init_21 : decode cX0_init 21 = .ok (.bipush 12, 2) := by decide +kernel
theorem dX0_init_23 : decode cX0_init 23 = .ok (.newarray .int, 2) := by decide +kernel
theorem dX0_init_25 : decode cX0_init 25 = .ok (.putfield 18, 3) := by decide +kernel
theorem dX0_init_28 : decode cX0_init 28 = .ok (.aload_n 0, 1) := by decide +kernel
theorem dX0_init_29 : decode cX0_init 29 = .ok (.bipush 12, 2) := by decide +kernel
theorem dX0_init_31 : decode cX0_init 31 = .ok (.newarray .int, 2) := by decide +kernel
theorem dX0_init_33 : decode cX0_init 33 = .ok (.putfield 21, 3) := by decide +kernel
theorem dX0_init_36 : decode cX0_init 36 = .ok (.aload_n 0, 1) := by decide +kernel
theorem dX0_init_37 : decode cX0_init 37 = .ok (.iconst 2, 1) := by decide +kernel
theorem dX0_init_38 : decode cX0_init 38 = .ok (.newarray .int, 2) := by decide +kernel
theorem dX0_init_40 : decode cX0_init 40 = .ok (.putfield 24, 3) := by decide +kernel
theorem dX0_init_43 : decode cX0_init 43 = .ok (.aload_n 0, 1) := by decide +kernel
theorem dX0_init_44 : decode cX0_init 44 = .ok (.iconst 0, 1) := by decide +kernel
theorem dX0_init_45 : decode cX0_init 45 = .ok (.putfield 27, 3) := by decide +kernel
theorem dX0_init_48 : decode cX0_init 48 = .ok (.return_, 1) := by decide +kernel
theorem dX0_empty_0 : decode cX0_empty 0 = .ok (.aload_n 0, 1) := by decide +kernel
theorem dX0_empty_1 : decode cX0_empty 1 = .ok (.iconst 0, 1) := by decide +kernel
theorem dX0_empty_2 : decode cX0_empty 2 = .ok (.putfield 27, 3) := by decide +kernel
theorem dX0_empty_5 : decode cX0_empty 5 = .ok (.iconst 0, 1) := by decide +kernel
theorem dX0_empty_6 : decode cX0_empty 6 = .ok (.istore_n 1, 1) := by decide +kernel
theorem dX0_empty_7 : decode cX0_empty 7 = .ok (.iload_n 1, 1) := by decide +kernel
theorem dX0_empty_8 : decode cX0_empty 8 = .ok (.iconst 2, 1) := by decide +kernel
theorem dX0_empty_9 : decode cX0_empty 9 = .ok (.if_icmp .ge 16, 3) := by decide +kernel
theorem dX0_empty_12 : decode cX0_empty 12 = .ok (.aload_n 0, 1) := by decide +kernel
theorem dX0_empty_13 : decode cX0_empty 13 = .ok (.getfield 24, 3) := by decide +kernel
theorem dX0_empty_16 : decode cX0_empty 16 = .ok (.iload_n 1, 1) := by decide +kernel
theorem dX0_empty_17 : decode cX0_empty 17 = .ok (.iconst 0, 1) := by decide +kernel
theorem dX0_empty_18 : decode cX0_empty 18 = .ok (.iastore, 1) := by decide +kernel
theorem dX0_empty_19 : decode cX0_empty 19 = .ok (.iinc 1 1, 3) := by decide +kernel
theorem dX0_empty_22 : decode cX0_empty 22 = .ok (.goto (-15), 3) := by decide +kernel
theorem dX0_empty_25 : decode cX0_empty 25 = .ok (.return_, 1) := by decide +kernel
theorem dX0_add_0 : decode cX0_add 0 = .ok (.aload_n 0, 1) := by decide +kernel
theorem dX0_add_1 : decode cX0_add 1 = .ok (.getfield 27, 3) := by decide +kernel
theorem dX0_add_4 : decode cX0_add 4 = .ok (.bipush 12, 2) := by decide +kernel
theorem dX0_add_6 : decode cX0_add 6 = .ok (.if_icmp .ge 15, 3) := by decide +kernel
theorem dX0_add_9 : decode cX0_add 9 = .ok (.iload_n 2, 1) := by decide +kernel
theorem dX0_add_10 : decode cX0_add 10 = .ok (.iload 4, 2) := by decide +kernel
theorem dX0_add_12 : decode cX0_add 12 = .ok (.if_icmp .ne 10, 3) := by decide +kernel
theorem dX0_add_15 : decode cX0_add 15 = .ok (.iload_n 3, 1) := by decide +kernel
theorem dX0_add_16 : decode cX0_add 16 = .ok (.iload 5, 2) := by decide +kernel
theorem dX0_add_18 : decode cX0_add 18 = .ok (.if_icmp .ne 4, 3) := by decide +kernel
theorem dX0_add_21 : decode cX0_add 21 = .ok (.return_, 1) := by decide +kernel
theorem dX0_add_22 : decode cX0_add 22 = .ok (.iload_n 2, 1) := by decide +kernel
theorem dX0_add_23 : decode cX0_add 23 = .ok (.iload 4, 2) := by decide +kernel
theorem dX0_add_25 : decode cX0_add 25 = .ok (.if_icmp .lt 15, 3) := by decide +kernel
theorem dX0_add_28 : decode cX0_add 28 = .ok (.iload_n 2, 1) := by decide +kernel
theorem dX0_add_29 : decode cX0_add 29 = .ok (.iload 4, 2) := by decide +kernel
theorem dX0_add_31 : decode cX0_add 31 = .ok (.if_icmp .ne 13, 3) := by decide +kernel
theorem dX0_add_34 : decode cX0_add 34 = .ok (.iload_n 3, 1) := by decide +kernel
theorem dX0_add_35 : decode cX0_add 35 = .ok (.iload 5, 2) := by decide +kernel
theorem dX0_add_37 : decode cX0_add 37 = .ok (.if_icmp .ge 7, 3) := by decide +kernel
theorem dX0_add_40 : decode cX0_add 40 = .ok (.iconst 1, 1) := by decide +kernel
theorem dX0_add_41 : decode cX0_add 41 = .ok (.goto 4, 3) := by decide +kernel
theorem dX0_add_44 : decode cX0_add 44 = .ok (.iconst 0, 1) := by decide +kernel
theorem dX0_add_45 : decode cX0_add 45 = .ok (.istore 6, 2) := by decide +kernel
theorem dX0_add_47 : decode cX0_add 47 = .ok (.aload_n 0, 1) := by decide +kernel
theorem dX0_add_48 : decode cX0_add 48 = .ok (.getfield 9, 3) := by decide +kernel
theorem dX0_add_51 : decode cX0_add 51 = .ok (.aload_n 0, 1) := by decide +kernel
theorem dX0_add_52 : decode cX0_add 52 = .ok (.getfield 27, 3) := by decide +kernel
theorem dX0_add_55 : decode cX0_add 55 = .ok (.iload 6, 2) := by decide +kernel
theorem dX0_add_57 : decode cX0_add 57 = .ok (.ifCond .eq 7, 3) := by decide +kernel
theorem dX0_add_60 : decode cX0_add 60 = .ok (.iload_n 2, 1) := by decide +kernel
theorem dX0_add_61 : decode cX0_add 61 = .ok (.goto 5, 3) := by decide +kernel
theorem dX0_add_64 : decode cX0_add 64 = .ok (.iload 4, 2) := by decide +kernel
theorem dX0_add_66 : decode cX0_add 66 = .ok (.iastore, 1) := by decide +kernel
theorem dX0_add_67 : decode cX0_add 67 = .ok (.aload_n 0, 1) := by decide +kernel
theorem dX0_add_68 : decode cX0_add 68 = .ok (.getfield 15, 3) := by decide +kernel
theorem dX0_add_71 : decode cX0_add 71 = .ok (.aload_n 0, 1) := by decide +kernel
theorem dX0_add_72 : decode cX0_add 72 = .ok (.getfield 27, 3) := by decide +kernel
theorem dX0_add_75 : decode cX0_add 75 = .ok (.iload 6, 2) := by decide +kernel
theorem dX0_add_77 : decode cX0_add 77 = .ok (.ifCond .eq 7, 3) := by decide +kernel
theorem dX0_add_80 : decode cX0_add 80 = .ok (.iload_n 3, 1) := by decide +kernel
theorem dX0_add_81 : decode cX0_add 81 = .ok (.goto 5, 3) := by decide +kernel
theorem dX0_add_84 : decode cX0_add 84 = .ok (.iload 5, 2) := by decide +kernel
theorem dX0_add_86 : decode cX0_add 86 = .ok (.iastore, 1) := by decide +kernel
theorem dX0_add_87 : decode cX0_add 87 = .ok (.aload_n 0, 1) := by decide +kernel
theorem dX0_add_88 : decode cX0_add 88 = .ok (.getfield 18, 3) := by decide +kernel
theorem dX0_add_91 : decode cX0_add 91 = .ok (.aload_n 0, 1) := by decide +kernel
theorem dX0_add_92 : decode cX0_add 92 = .ok (.getfield 27, 3) := by decide +kernel
theorem dX0_add_95 : decode cX0_add 95 = .ok (.iload 6, 2) := by decide +kernel
theorem dX0_add_97 : decode cX0_add 97 = .ok (.ifCond .eq 8, 3) := by decide +kernel
theorem dX0_add_100 : decode cX0_add 100 = .ok (.iload 4, 2) := by decide +kernel
theorem dX0_add_102 : decode cX0_add 102 = .ok (.goto 4, 3) := by decide +kernel
theorem dX0_add_105 : decode cX0_add 105 = .ok (.iload_n 2, 1) := by decide +kernel
theorem dX0_add_106 : decode cX0_add 106 = .ok (.iastore, 1) := by decide +kernel
theorem dX0_add_107 : decode cX0_add 107 = .ok (.aload_n 0, 1) := by decide +kernel
theorem dX0_add_108 : decode cX0_add 108 = .ok (.getfield 21, 3) := by decide +kernel
theorem dX0_add_111 : decode cX0_add 111 = .ok (.aload_n 0, 1) := by decide +kernel
theorem dX0_add_112 : decode cX0_add 112 = .ok (.getfield 27, 3) := by decide +kernel
theorem dX0_add_115 : decode cX0_add 115 = .ok (.iload 6, 2) := by decide +kernel
theorem dX0_add_117 : decode cX0_add 117 = .ok (.ifCond .eq 8, 3) := by decide +kernel
theorem dX0_add_120 : decode cX0_add 120 = .ok (.iload 5, 2) := by decide +kernel
theorem dX0_add_122 : decode cX0_add 122 = .ok (.goto 4, 3) := by decide +kernel
theorem dX0_add_125 : decode cX0_add 125 = .ok (.iload_n 3, 1) := by decide +kernel
theorem dX0_add_126 : decode cX0_add 126 = .ok (.iastore, 1) := by decide +kernel
theorem dX0_add_127 : decode cX0_add 127 = .ok (.aload_n 0, 1) := by decide +kernel
theorem dX0_add_128 : decode cX0_add 128 = .ok (.getfield 24, 3) := by decide +kernel
theorem dX0_add_131 : decode cX0_add 131 = .ok (.iload_n 1, 1) := by decide +kernel
theorem dX0_add_132 : decode cX0_add 132 = .ok (.aload_n 0, 1) := by decide +kernel
theorem dX0_add_133 : decode cX0_add 133 = .ok (.getfield 24, 3) := by decide +kernel
theorem dX0_add_136 : decode cX0_add 136 = .ok (.iload_n 1, 1) := by decide +kernel
theorem dX0_add_137 : decode cX0_add 137 = .ok (.iaload, 1) := by decide +kernel
theorem dX0_add_138 : decode cX0_add 138 = .ok (.iconst 1, 1) := by decide +kernel
theorem dX0_add_139 : decode cX0_add 139 = .ok (.aload_n 0, 1) := by decide +kernel
theorem dX0_add_140 : decode cX0_add 140 = .ok (.getfield 27, 3) := by decide +kernel
theorem dX0_add_143 : decode cX0_add 143 = .ok (.ishl, 1) := by decide +kernel
theorem dX0_add_144 : decode cX0_add 144 = .ok (.ior, 1) := by decide +kernel
theorem dX0_add_145 : decode cX0_add 145 = .ok (.iastore, 1) := by decide +kernel
theorem dX0_add_146 : decode cX0_add 146 = .ok (.aload_n 0, 1) := by decide +kernel
theorem dX0_add_147 : decode cX0_add 147 = .ok (.dup, 1) := by decide +kernel
theorem dX0_add_148 : decode cX0_add 148 = .ok (.getfield 27, 3) := by decide +kernel
theorem dX0_add_151 : decode cX0_add 151 = .ok (.iconst 1, 1) := by decide +kernel
theorem dX0_add_152 : decode cX0_add 152 = .ok (.iadd, 1) := by decide +kernel
theorem dX0_add_153 : decode cX0_add 153 = .ok (.putfield 27, 3) := by decide +kernel
theorem dX0_add_156 : decode cX0_add 156 = .ok (.return_, 1) := by decide +kernel
theorem dX0_spanX_0 : decode cX0_spanX 0 = .ok (.aload_n 0, 1) := by decide +kernel
theorem dX0_spanX_1 : decode cX0_spanX 1 = .ok (.getfield 18, 3) := by decide +kernel
theorem dX0_spanX_4 : decode cX0_spanX 4 = .ok (.iload_n 1, 1) := by decide +kernel
theorem dX0_spanX_5 : decode cX0_spanX 5 = .ok (.iaload, 1) := by decide +kernel
theorem dX0_spanX_6 : decode cX0_spanX 6 = .ok (.aload_n 0, 1) := by decide +kernel
theorem dX0_spanX_7 : decode cX0_spanX 7 = .ok (.getfield 9, 3) := by decide +kernel
theorem dX0_spanX_10 : decode cX0_spanX 10 = .ok (.iload_n 1, 1) := by decide +kernel
theorem dX0_spanX_11 : decode cX0_spanX 11 = .ok (.iaload, 1) := by decide +kernel
theorem dX0_spanX_12 : decode cX0_spanX 12 = .ok (.isub, 1) := by decide +kernel
theorem dX0_spanX_13 : decode cX0_spanX 13 = .ok (.ireturn, 1) := by decide +kernel
theorem dX0_spanY_0 : decode cX0_spanY 0 = .ok (.aload_n 0, 1) := by decide +kernel
theorem dX0_spanY_1 : decode cX0_spanY 1 = .ok (.getfield 21, 3) := by decide +kernel
theorem dX0_spanY_4 : decode cX0_spanY 4 = .ok (.iload_n 1, 1) := by decide +kernel
theorem dX0_spanY_5 : decode cX0_spanY 5 = .ok (.iaload, 1) := by decide +kernel
theorem dX0_spanY_6 : decode cX0_spanY 6 = .ok (.aload_n 0, 1) := by decide +kernel
theorem dX0_spanY_7 : decode cX0_spanY 7 = .ok (.getfield 15, 3) := by decide +kernel
theorem dX0_spanY_10 : decode cX0_spanY 10 = .ok (.iload_n 1, 1) := by decide +kernel
theorem dX0_spanY_11 : decode cX0_spanY 11 = .ok (.iaload, 1) := by decide +kernel
theorem dX0_spanY_12 : decode cX0_spanY 12 = .ok (.isub, 1) := by decide +kernel
theorem dX0_spanY_13 : decode cX0_spanY 13 = .ok (.ireturn, 1) := by decide +kernel
set_option maxRecDepth 20000 in
theorem ggX0_through_X0_holds : GoodIn wsX0_through wsX0_holds := goodIn_r _ [6, 7, 8, 9, 10, 11, 12, 13, 14, 15, 16, 17, 18, 19, 20, 5, 21, 22, 23, 24, 25, 26, 27, 28, 29, 30, 31, 32, 33, 34, 35] (by decide +kernel) (by decide +kernel)
set_option maxRecDepth 20000 in
theorem gX0_through_X0_holds : GoodIn wsX0_through (wsV RX0 31 RX0 yX0_holds wsX0_holds) := goodIn_app (goodIn_of _ (by decide +kernel)) ggX0_through_X0_holds
theorem dX0_through_0 : decode cX0_through 0 = .ok (.iconst 0, 1) := by decide +kernel
theorem dX0_through_1 : decode cX0_through 1 = .ok (.istore 7, 2) := by decide +kernel
theorem dX0_through_3 : decode cX0_through 3 = .ok (.iconst 0, 1) := by decide +kernel
theorem dX0_through_4 : decode cX0_through 4 = .ok (.istore 8, 2) := by decide +kernel
theorem dX0_through_6 : decode cX0_through 6 = .ok (.iload 8, 2) := by decide +kernel
theorem dX0_through_8 : decode cX0_through 8 = .ok (.aload_n 0, 1) := by decide +kernel
theorem dX0_through_9 : decode cX0_through 9 = .ok (.getfield 27, 3) := by decide +kernel
theorem dX0_through_12 : decode cX0_through 12 = .ok (.if_icmp .ge 31, 3) := by decide +kernel
theorem dX0_through_15 : decode cX0_through 15 = .ok (.aload_n 0, 1) := by decide +kernel
theorem dX0_through_16 : decode cX0_through 16 = .ok (.iload 8, 2) := by decide +kernel
theorem dX0_through_18 : decode cX0_through 18 = .ok (.lload_n 1, 1) := by decide +kernel
theorem dX0_through_19 : decode cX0_through 19 = .ok (.lload_n 3, 1) := by decide +kernel
theorem dX0_through_20 : decode cX0_through 20 = .ok (.lload 5, 2) := by decide +kernel
theorem dX0_through_22 : decode cX0_through 22 = .ok (.invokevirtual 31, 3) := by decide +kernel
theorem dX0_through_25 : decode cX0_through 25 = .ok (.ifCond .eq 12, 3) := by decide +kernel
theorem dX0_through_28 : decode cX0_through 28 = .ok (.iload 7, 2) := by decide +kernel
theorem dX0_through_30 : decode cX0_through 30 = .ok (.iconst 1, 1) := by decide +kernel
theorem dX0_through_31 : decode cX0_through 31 = .ok (.iload 8, 2) := by decide +kernel
theorem dX0_through_33 : decode cX0_through 33 = .ok (.ishl, 1) := by decide +kernel
theorem dX0_through_34 : decode cX0_through 34 = .ok (.ior, 1) := by decide +kernel
theorem dX0_through_35 : decode cX0_through 35 = .ok (.istore 7, 2) := by decide +kernel
theorem dX0_through_37 : decode cX0_through 37 = .ok (.iinc 8 1, 3) := by decide +kernel
theorem dX0_through_40 : decode cX0_through 40 = .ok (.goto (-34), 3) := by decide +kernel
theorem dX0_through_43 : decode cX0_through 43 = .ok (.iload 7, 2) := by decide +kernel
theorem dX0_through_45 : decode cX0_through 45 = .ok (.ireturn, 1) := by decide +kernel
set_option maxRecDepth 20000 in
theorem ggX0_above_X0_turn : GoodIn wsX0_above wsX0_turn := goodIn_r _ [8, 9, 2, 10, 11, 12, 7, 13, 3, 14, 15, 16, 17, 18, 19, 20, 21, 22, 23, 24] (by decide +kernel) (by decide +kernel)
set_option maxRecDepth 20000 in
theorem gX0_above_X0_turn : GoodIn wsX0_above (wsV RX0 35 RX0 yX0_turn wsX0_turn) := goodIn_app (goodIn_of _ (by decide +kernel)) ggX0_above_X0_turn
theorem dX0_above_0 : decode cX0_above 0 = .ok (.iconst 0, 1) := by decide +kernel
theorem dX0_above_1 : decode cX0_above 1 = .ok (.istore 7, 2) := by decide +kernel
theorem dX0_above_3 : decode cX0_above 3 = .ok (.iconst 0, 1) := by decide +kernel
theorem dX0_above_4 : decode cX0_above 4 = .ok (.istore 8, 2) := by decide +kernel
theorem dX0_above_6 : decode cX0_above 6 = .ok (.iload 8, 2) := by decide +kernel
theorem dX0_above_8 : decode cX0_above 8 = .ok (.aload_n 0, 1) := by decide +kernel
theorem dX0_above_9 : decode cX0_above 9 = .ok (.getfield 27, 3) := by decide +kernel
theorem dX0_above_12 : decode cX0_above 12 = .ok (.if_icmp .ge 65, 3) := by decide +kernel
theorem dX0_above_15 : decode cX0_above 15 = .ok (.aload_n 0, 1) := by decide +kernel
theorem dX0_above_16 : decode cX0_above 16 = .ok (.getfield 9, 3) := by decide +kernel
theorem dX0_above_19 : decode cX0_above 19 = .ok (.iload 8, 2) := by decide +kernel
theorem dX0_above_21 : decode cX0_above 21 = .ok (.iaload, 1) := by decide +kernel
theorem dX0_above_22 : decode cX0_above 22 = .ok (.i2l, 1) := by decide +kernel
theorem dX0_above_23 : decode cX0_above 23 = .ok (.lload 5, 2) := by decide +kernel
theorem dX0_above_25 : decode cX0_above 25 = .ok (.lmul, 1) := by decide +kernel
theorem dX0_above_26 : decode cX0_above 26 = .ok (.lload_n 1, 1) := by decide +kernel
theorem dX0_above_27 : decode cX0_above 27 = .ok (.lcmp, 1) := by decide +kernel
theorem dX0_above_28 : decode cX0_above 28 = .ok (.ifCond .gt 43, 3) := by decide +kernel
theorem dX0_above_31 : decode cX0_above 31 = .ok (.lload_n 1, 1) := by decide +kernel
theorem dX0_above_32 : decode cX0_above 32 = .ok (.aload_n 0, 1) := by decide +kernel
theorem dX0_above_33 : decode cX0_above 33 = .ok (.getfield 18, 3) := by decide +kernel
theorem dX0_above_36 : decode cX0_above 36 = .ok (.iload 8, 2) := by decide +kernel
theorem dX0_above_38 : decode cX0_above 38 = .ok (.iaload, 1) := by decide +kernel
theorem dX0_above_39 : decode cX0_above 39 = .ok (.i2l, 1) := by decide +kernel
theorem dX0_above_40 : decode cX0_above 40 = .ok (.lload 5, 2) := by decide +kernel
theorem dX0_above_42 : decode cX0_above 42 = .ok (.lmul, 1) := by decide +kernel
theorem dX0_above_43 : decode cX0_above 43 = .ok (.lcmp, 1) := by decide +kernel
theorem dX0_above_44 : decode cX0_above 44 = .ok (.ifCond .ge 27, 3) := by decide +kernel
theorem dX0_above_47 : decode cX0_above 47 = .ok (.aload_n 0, 1) := by decide +kernel
theorem dX0_above_48 : decode cX0_above 48 = .ok (.iload 8, 2) := by decide +kernel
theorem dX0_above_50 : decode cX0_above 50 = .ok (.lload_n 1, 1) := by decide +kernel
theorem dX0_above_51 : decode cX0_above 51 = .ok (.lload_n 3, 1) := by decide +kernel
theorem dX0_above_52 : decode cX0_above 52 = .ok (.lload 5, 2) := by decide +kernel
theorem dX0_above_54 : decode cX0_above 54 = .ok (.invokevirtual 35, 3) := by decide +kernel
theorem dX0_above_57 : decode cX0_above 57 = .ok (.lconst 0, 1) := by decide +kernel
theorem dX0_above_58 : decode cX0_above 58 = .ok (.lcmp, 1) := by decide +kernel
theorem dX0_above_59 : decode cX0_above 59 = .ok (.ifCond .ge 12, 3) := by decide +kernel
theorem dX0_above_62 : decode cX0_above 62 = .ok (.iload 7, 2) := by decide +kernel
theorem dX0_above_64 : decode cX0_above 64 = .ok (.iconst 1, 1) := by decide +kernel
theorem dX0_above_65 : decode cX0_above 65 = .ok (.iload 8, 2) := by decide +kernel
theorem dX0_above_67 : decode cX0_above 67 = .ok (.ishl, 1) := by decide +kernel
theorem dX0_above_68 : decode cX0_above 68 = .ok (.ior, 1) := by decide +kernel
theorem dX0_above_69 : decode cX0_above 69 = .ok (.istore 7, 2) := by decide +kernel
theorem dX0_above_71 : decode cX0_above 71 = .ok (.iinc 8 1, 3) := by decide +kernel
theorem dX0_above_74 : decode cX0_above 74 = .ok (.goto (-68), 3) := by decide +kernel
theorem dX0_above_77 : decode cX0_above 77 = .ok (.iload 7, 2) := by decide +kernel
theorem dX0_above_79 : decode cX0_above 79 = .ok (.ireturn, 1) := by decide +kernel
set_option maxRecDepth 20000 in
theorem ggX0_holds_X0_turn : GoodIn wsX0_holds wsX0_turn := goodIn_r _ [16, 1, 10, 17, 18, 19, 15, 20, 11, 21, 22, 23, 24, 2, 25, 26, 27, 28, 29, 30] (by decide +kernel) (by decide +kernel)
set_option maxRecDepth 20000 in
theorem gX0_holds_X0_turn : GoodIn wsX0_holds (wsV RX0 35 RX0 yX0_turn wsX0_turn) := goodIn_app (goodIn_of _ (by decide +kernel)) ggX0_holds_X0_turn
theorem dX0_holds_0 : decode cX0_holds 0 = .ok (.aload_n 0, 1) := by decide +kernel
theorem dX0_holds_1 : decode cX0_holds 1 = .ok (.getfield 15, 3) := by decide +kernel
theorem dX0_holds_4 : decode cX0_holds 4 = .ok (.iload_n 1, 1) := by decide +kernel
theorem dX0_holds_5 : decode cX0_holds 5 = .ok (.iaload, 1) := by decide +kernel
theorem dX0_holds_6 : decode cX0_holds 6 = .ok (.aload_n 0, 1) := by decide +kernel
theorem dX0_holds_7 : decode cX0_holds 7 = .ok (.getfield 21, 3) := by decide +kernel
theorem dX0_holds_10 : decode cX0_holds 10 = .ok (.iload_n 1, 1) := by decide +kernel
theorem dX0_holds_11 : decode cX0_holds 11 = .ok (.iaload, 1) := by decide +kernel
theorem dX0_holds_12 : decode cX0_holds 12 = .ok (.invokestatic 39, 3) := by decide +kernel
theorem dX0_holds_15 : decode cX0_holds 15 = .ok (.i2l, 1) := by decide +kernel
theorem dX0_holds_16 : decode cX0_holds 16 = .ok (.lload 6, 2) := by decide +kernel
theorem dX0_holds_18 : decode cX0_holds 18 = .ok (.lmul, 1) := by decide +kernel
theorem dX0_holds_19 : decode cX0_holds 19 = .ok (.lstore 8, 2) := by decide +kernel
theorem dX0_holds_21 : decode cX0_holds 21 = .ok (.aload_n 0, 1) := by decide +kernel
theorem dX0_holds_22 : decode cX0_holds 22 = .ok (.getfield 15, 3) := by decide +kernel
theorem dX0_holds_25 : decode cX0_holds 25 = .ok (.iload_n 1, 1) := by decide +kernel
theorem dX0_holds_26 : decode cX0_holds 26 = .ok (.iaload, 1) := by decide +kernel
theorem dX0_holds_27 : decode cX0_holds 27 = .ok (.aload_n 0, 1) := by decide +kernel
theorem dX0_holds_28 : decode cX0_holds 28 = .ok (.getfield 21, 3) := by decide +kernel
theorem dX0_holds_31 : decode cX0_holds 31 = .ok (.iload_n 1, 1) := by decide +kernel
theorem dX0_holds_32 : decode cX0_holds 32 = .ok (.iaload, 1) := by decide +kernel
theorem dX0_holds_33 : decode cX0_holds 33 = .ok (.invokestatic 45, 3) := by decide +kernel
theorem dX0_holds_36 : decode cX0_holds 36 = .ok (.i2l, 1) := by decide +kernel
theorem dX0_holds_37 : decode cX0_holds 37 = .ok (.lload 6, 2) := by decide +kernel
theorem dX0_holds_39 : decode cX0_holds 39 = .ok (.lmul, 1) := by decide +kernel
theorem dX0_holds_40 : decode cX0_holds 40 = .ok (.lstore 10, 2) := by decide +kernel
theorem dX0_holds_42 : decode cX0_holds 42 = .ok (.aload_n 0, 1) := by decide +kernel
theorem dX0_holds_43 : decode cX0_holds 43 = .ok (.getfield 9, 3) := by decide +kernel
theorem dX0_holds_46 : decode cX0_holds 46 = .ok (.iload_n 1, 1) := by decide +kernel
theorem dX0_holds_47 : decode cX0_holds 47 = .ok (.iaload, 1) := by decide +kernel
theorem dX0_holds_48 : decode cX0_holds 48 = .ok (.i2l, 1) := by decide +kernel
theorem dX0_holds_49 : decode cX0_holds 49 = .ok (.lload 6, 2) := by decide +kernel
theorem dX0_holds_51 : decode cX0_holds 51 = .ok (.lmul, 1) := by decide +kernel
theorem dX0_holds_52 : decode cX0_holds 52 = .ok (.lload_n 2, 1) := by decide +kernel
theorem dX0_holds_53 : decode cX0_holds 53 = .ok (.lcmp, 1) := by decide +kernel
theorem dX0_holds_54 : decode cX0_holds 54 = .ok (.ifCond .gt 53, 3) := by decide +kernel
theorem dX0_holds_57 : decode cX0_holds 57 = .ok (.lload_n 2, 1) := by decide +kernel
theorem dX0_holds_58 : decode cX0_holds 58 = .ok (.aload_n 0, 1) := by decide +kernel
theorem dX0_holds_59 : decode cX0_holds 59 = .ok (.getfield 18, 3) := by decide +kernel
theorem dX0_holds_62 : decode cX0_holds 62 = .ok (.iload_n 1, 1) := by decide +kernel
theorem dX0_holds_63 : decode cX0_holds 63 = .ok (.iaload, 1) := by decide +kernel
theorem dX0_holds_64 : decode cX0_holds 64 = .ok (.i2l, 1) := by decide +kernel
theorem dX0_holds_65 : decode cX0_holds 65 = .ok (.lload 6, 2) := by decide +kernel
theorem dX0_holds_67 : decode cX0_holds 67 = .ok (.lmul, 1) := by decide +kernel
theorem dX0_holds_68 : decode cX0_holds 68 = .ok (.lcmp, 1) := by decide +kernel
theorem dX0_holds_69 : decode cX0_holds 69 = .ok (.ifCond .gt 38, 3) := by decide +kernel
theorem dX0_holds_72 : decode cX0_holds 72 = .ok (.lload 8, 2) := by decide +kernel
theorem dX0_holds_74 : decode cX0_holds 74 = .ok (.lload 4, 2) := by decide +kernel
theorem dX0_holds_76 : decode cX0_holds 76 = .ok (.lcmp, 1) := by decide +kernel
theorem dX0_holds_77 : decode cX0_holds 77 = .ok (.ifCond .gt 30, 3) := by decide +kernel
theorem dX0_holds_80 : decode cX0_holds 80 = .ok (.lload 4, 2) := by decide +kernel
theorem dX0_holds_82 : decode cX0_holds 82 = .ok (.lload 10, 2) := by decide +kernel
theorem dX0_holds_84 : decode cX0_holds 84 = .ok (.lcmp, 1) := by decide +kernel
theorem dX0_holds_85 : decode cX0_holds 85 = .ok (.ifCond .gt 22, 3) := by decide +kernel
theorem dX0_holds_88 : decode cX0_holds 88 = .ok (.aload_n 0, 1) := by decide +kernel
theorem dX0_holds_89 : decode cX0_holds 89 = .ok (.iload_n 1, 1) := by decide +kernel
theorem dX0_holds_90 : decode cX0_holds 90 = .ok (.lload_n 2, 1) := by decide +kernel
theorem dX0_holds_91 : decode cX0_holds 91 = .ok (.lload 4, 2) := by decide +kernel
theorem dX0_holds_93 : decode cX0_holds 93 = .ok (.lload 6, 2) := by decide +kernel
theorem dX0_holds_95 : decode cX0_holds 95 = .ok (.invokevirtual 35, 3) := by decide +kernel
theorem dX0_holds_98 : decode cX0_holds 98 = .ok (.lconst 0, 1) := by decide +kernel
theorem dX0_holds_99 : decode cX0_holds 99 = .ok (.lcmp, 1) := by decide +kernel
theorem dX0_holds_100 : decode cX0_holds 100 = .ok (.ifCond .ne 7, 3) := by decide +kernel
theorem dX0_holds_103 : decode cX0_holds 103 = .ok (.iconst 1, 1) := by decide +kernel
theorem dX0_holds_104 : decode cX0_holds 104 = .ok (.goto 4, 3) := by decide +kernel
theorem dX0_holds_107 : decode cX0_holds 107 = .ok (.iconst 0, 1) := by decide +kernel
theorem dX0_holds_108 : decode cX0_holds 108 = .ok (.ireturn, 1) := by decide +kernel
set_option maxRecDepth 20000 in
theorem ggX0_turn_X0_spanX : GoodIn wsX0_turn wsX0_spanX := goodIn_r _ [7, 8, 2, 14, 15, 16, 17, 18, 19] (by decide +kernel) (by decide +kernel)
set_option maxRecDepth 20000 in
theorem gX0_turn_X0_spanX : GoodIn wsX0_turn (wsV RX0 48 RX0 yX0_spanX wsX0_spanX) := goodIn_app (goodIn_of _ (by decide +kernel)) ggX0_turn_X0_spanX
set_option maxRecDepth 20000 in
theorem ggX0_turn_X0_spanY : GoodIn wsX0_turn wsX0_spanY := goodIn_r _ [12, 13, 1, 14, 15, 16, 17, 18, 19] (by decide +kernel) (by decide +kernel)
set_option maxRecDepth 20000 in
theorem gX0_turn_X0_spanY : GoodIn wsX0_turn (wsV RX0 52 RX0 yX0_spanY wsX0_spanY) := goodIn_app (goodIn_of _ (by decide +kernel)) ggX0_turn_X0_spanY
theorem dX0_turn_0 : decode cX0_turn 0 = .ok (.aload_n 0, 1) := by decide +kernel
theorem dX0_turn_1 : decode cX0_turn 1 = .ok (.iload_n 1, 1) := by decide +kernel
theorem dX0_turn_2 : decode cX0_turn 2 = .ok (.invokevirtual 48, 3) := by decide +kernel
theorem dX0_turn_5 : decode cX0_turn 5 = .ok (.i2l, 1) := by decide +kernel
theorem dX0_turn_6 : decode cX0_turn 6 = .ok (.lload 4, 2) := by decide +kernel
theorem dX0_turn_8 : decode cX0_turn 8 = .ok (.aload_n 0, 1) := by decide +kernel
theorem dX0_turn_9 : decode cX0_turn 9 = .ok (.getfield 15, 3) := by decide +kernel
theorem dX0_turn_12 : decode cX0_turn 12 = .ok (.iload_n 1, 1) := by decide +kernel
theorem dX0_turn_13 : decode cX0_turn 13 = .ok (.iaload, 1) := by decide +kernel
theorem dX0_turn_14 : decode cX0_turn 14 = .ok (.i2l, 1) := by decide +kernel
theorem dX0_turn_15 : decode cX0_turn 15 = .ok (.lload 6, 2) := by decide +kernel
theorem dX0_turn_17 : decode cX0_turn 17 = .ok (.lmul, 1) := by decide +kernel
theorem dX0_turn_18 : decode cX0_turn 18 = .ok (.lsub, 1) := by decide +kernel
theorem dX0_turn_19 : decode cX0_turn 19 = .ok (.lmul, 1) := by decide +kernel
theorem dX0_turn_20 : decode cX0_turn 20 = .ok (.aload_n 0, 1) := by decide +kernel
theorem dX0_turn_21 : decode cX0_turn 21 = .ok (.iload_n 1, 1) := by decide +kernel
theorem dX0_turn_22 : decode cX0_turn 22 = .ok (.invokevirtual 52, 3) := by decide +kernel
theorem dX0_turn_25 : decode cX0_turn 25 = .ok (.i2l, 1) := by decide +kernel
theorem dX0_turn_26 : decode cX0_turn 26 = .ok (.lload_n 2, 1) := by decide +kernel
theorem dX0_turn_27 : decode cX0_turn 27 = .ok (.aload_n 0, 1) := by decide +kernel
theorem dX0_turn_28 : decode cX0_turn 28 = .ok (.getfield 9, 3) := by decide +kernel
theorem dX0_turn_31 : decode cX0_turn 31 = .ok (.iload_n 1, 1) := by decide +kernel
theorem dX0_turn_32 : decode cX0_turn 32 = .ok (.iaload, 1) := by decide +kernel
theorem dX0_turn_33 : decode cX0_turn 33 = .ok (.i2l, 1) := by decide +kernel
theorem dX0_turn_34 : decode cX0_turn 34 = .ok (.lload 6, 2) := by decide +kernel
theorem dX0_turn_36 : decode cX0_turn 36 = .ok (.lmul, 1) := by decide +kernel
theorem dX0_turn_37 : decode cX0_turn 37 = .ok (.lsub, 1) := by decide +kernel
theorem dX0_turn_38 : decode cX0_turn 38 = .ok (.lmul, 1) := by decide +kernel
theorem dX0_turn_39 : decode cX0_turn 39 = .ok (.lsub, 1) := by decide +kernel
theorem dX0_turn_40 : decode cX0_turn 40 = .ok (.lreturn, 1) := by decide +kernel
theorem dX1_init_0 : decode cX1_init 0 = .ok (.aload_n 0, 1) := by decide +kernel
theorem dX1_init_1 : decode cX1_init 1 = .ok (.invokespecial 3, 3) := by decide +kernel
theorem dX1_init_4 : decode cX1_init 4 = .ok (.aload_n 0, 1) := by decide +kernel
theorem dX1_init_5 : decode cX1_init 5 = .ok (.bipush 12, 2) := by decide +kernel
theorem dX1_init_7 : decode cX1_init 7 = .ok (.newarray .int, 2) := by decide +kernel
theorem dX1_init_9 : decode cX1_init 9 = .ok (.putfield 9, 3) := by decide +kernel
theorem dX1_init_12 : decode cX1_init 12 = .ok (.aload_n 0, 1) := by decide +kernel
theorem dX1_init_13 : decode cX1_init 13 = .ok (.iconst 0, 1) := by decide +kernel
theorem dX1_init_14 : decode cX1_init 14 = .ok (.putfield 15, 3) := by decide +kernel
theorem dX1_init_17 : decode cX1_init 17 = .ok (.aload_n 0, 1) := by decide +kernel
theorem dX1_init_18 : decode cX1_init 18 = .ok (.iconst 0, 1) := by decide +kernel
theorem dX1_init_19 : decode cX1_init 19 = .ok (.putfield 19, 3) := by decide +kernel
theorem dX1_init_22 : decode cX1_init 22 = .ok (.return_, 1) := by decide +kernel
set_option maxRecDepth 20000 in
theorem ggX1_find_X1_edgesMet : GoodIn wsX1_find wsX1_edgesMet := goodIn_r _ [7, 30, 31, 32, 33, 34] (by decide +kernel) (by decide +kernel)
set_option maxRecDepth 20000 in
theorem gX1_find_X1_edgesMet : GoodIn wsX1_find (va_wsS RX1 22 yX1_edgesMet wsX1_edgesMet) := goodIn_app (goodIn_of _ (by decide +kernel)) ggX1_find_X1_edgesMet
set_option maxRecDepth 20000 in
theorem ggX1_find_X1_countPairs : GoodIn wsX1_find wsX1_countPairs := goodIn_r _ [11, 1, 12, 13, 14, 15, 16, 17, 18, 27, 28, 29] (by decide +kernel) (by decide +kernel)
set_option maxRecDepth 20000 in
theorem gX1_find_X1_countPairs : GoodIn wsX1_find (wsV RX1 26 RX1 yX1_countPairs wsX1_countPairs) := goodIn_app (goodIn_of _ (by decide +kernel)) ggX1_find_X1_countPairs
set_option maxRecDepth 20000 in
theorem ggX1_find_X1_spread : GoodIn wsX1_find wsX1_spread := goodIn_r _ [22, 1, 27, 28, 29] (by decide +kernel) (by decide +kernel)
set_option maxRecDepth 20000 in
theorem gX1_find_X1_spread : GoodIn wsX1_find (wsV RX1 30 RX1 yX1_spread wsX1_spread) := goodIn_app (goodIn_of _ (by decide +kernel)) ggX1_find_X1_spread
set_option maxRecDepth 20000 in
theorem ggX1_find_X1_countParts : GoodIn wsX1_find wsX1_countParts := goodIn_r _ [26, 1, 27, 28, 29] (by decide +kernel) (by decide +kernel)
set_option maxRecDepth 20000 in
theorem gX1_find_X1_countParts : GoodIn wsX1_find (wsV RX1 34 RX1 yX1_countParts wsX1_countParts) := goodIn_app (goodIn_of _ (by decide +kernel)) ggX1_find_X1_countParts
theorem dX1_find_0 : decode cX1_find 0 = .ok (.iconst 0, 1) := by decide +kernel
theorem dX1_find_1 : decode cX1_find 1 = .ok (.istore_n 3, 1) := by decide +kernel
theorem dX1_find_2 : decode cX1_find 2 = .ok (.iload_n 3, 1) := by decide +kernel
theorem dX1_find_3 : decode cX1_find 3 = .ok (.iload_n 1, 1) := by decide +kernel
theorem dX1_find_4 : decode cX1_find 4 = .ok (.if_icmp .ge 20, 3) := by decide +kernel
theorem dX1_find_7 : decode cX1_find 7 = .ok (.aload_n 0, 1) := by decide +kernel
theorem dX1_find_8 : decode cX1_find 8 = .ok (.getfield 9, 3) := by decide +kernel
theorem dX1_find_11 : decode cX1_find 11 = .ok (.iload_n 3, 1) := by decide +kernel
theorem dX1_find_12 : decode cX1_find 12 = .ok (.iload_n 3, 1) := by decide +kernel
theorem dX1_find_13 : decode cX1_find 13 = .ok (.aload_n 2, 1) := by decide +kernel
theorem dX1_find_14 : decode cX1_find 14 = .ok (.invokestatic 22, 3) := by decide +kernel
theorem dX1_find_17 : decode cX1_find 17 = .ok (.iastore, 1) := by decide +kernel
theorem dX1_find_18 : decode cX1_find 18 = .ok (.iinc 3 1, 3) := by decide +kernel
theorem dX1_find_21 : decode cX1_find 21 = .ok (.goto (-19), 3) := by decide +kernel
theorem dX1_find_24 : decode cX1_find 24 = .ok (.aload_n 0, 1) := by decide +kernel
theorem dX1_find_25 : decode cX1_find 25 = .ok (.aload_n 0, 1) := by decide +kernel
theorem dX1_find_26 : decode cX1_find 26 = .ok (.iload_n 1, 1) := by decide +kernel
theorem dX1_find_27 : decode cX1_find 27 = .ok (.invokevirtual 26, 3) := by decide +kernel
theorem dX1_find_30 : decode cX1_find 30 = .ok (.putfield 15, 3) := by decide +kernel
theorem dX1_find_33 : decode cX1_find 33 = .ok (.aload_n 0, 1) := by decide +kernel
theorem dX1_find_34 : decode cX1_find 34 = .ok (.iload_n 1, 1) := by decide +kernel
theorem dX1_find_35 : decode cX1_find 35 = .ok (.invokevirtual 30, 3) := by decide +kernel
theorem dX1_find_38 : decode cX1_find 38 = .ok (.aload_n 0, 1) := by decide +kernel
theorem dX1_find_39 : decode cX1_find 39 = .ok (.aload_n 0, 1) := by decide +kernel
theorem dX1_find_40 : decode cX1_find 40 = .ok (.iload_n 1, 1) := by decide +kernel
theorem dX1_find_41 : decode cX1_find 41 = .ok (.invokevirtual 34, 3) := by decide +kernel
theorem dX1_find_44 : decode cX1_find 44 = .ok (.putfield 19, 3) := by decide +kernel
theorem dX1_find_47 : decode cX1_find 47 = .ok (.return_, 1) := by decide +kernel
theorem dX1_edgesMet_0 : decode cX1_edgesMet 0 = .ok (.iconst 0, 1) := by decide +kernel
theorem dX1_edgesMet_1 : decode cX1_edgesMet 1 = .ok (.istore_n 2, 1) := by decide +kernel
theorem dX1_edgesMet_2 : decode cX1_edgesMet 2 = .ok (.iconst 0, 1) := by decide +kernel
theorem dX1_edgesMet_3 : decode cX1_edgesMet 3 = .ok (.istore_n 3, 1) := by decide +kernel
theorem dX1_edgesMet_4 : decode cX1_edgesMet 4 = .ok (.iload_n 3, 1) := by decide +kernel
theorem dX1_edgesMet_5 : decode cX1_edgesMet 5 = .ok (.aload_n 1, 1) := by decide +kernel
theorem dX1_edgesMet_6 : decode cX1_edgesMet 6 = .ok (.getfield 37, 3) := by decide +kernel
theorem dX1_edgesMet_9 : decode cX1_edgesMet 9 = .ok (.if_icmp .ge 31, 3) := by decide +kernel
theorem dX1_edgesMet_12 : decode cX1_edgesMet 12 = .ok (.aload_n 1, 1) := by decide +kernel
theorem dX1_edgesMet_13 : decode cX1_edgesMet 13 = .ok (.getfield 42, 3) := by decide +kernel
theorem dX1_edgesMet_16 : decode cX1_edgesMet 16 = .ok (.iload_n 3, 1) := by decide +kernel
theorem dX1_edgesMet_17 : decode cX1_edgesMet 17 = .ok (.iaload, 1) := by decide +kernel
theorem dX1_edgesMet_18 : decode cX1_edgesMet 18 = .ok (.iconst 1, 1) := by decide +kernel
theorem dX1_edgesMet_19 : decode cX1_edgesMet 19 = .ok (.iload_n 0, 1) := by decide +kernel
theorem dX1_edgesMet_20 : decode cX1_edgesMet 20 = .ok (.ishl, 1) := by decide +kernel
theorem dX1_edgesMet_21 : decode cX1_edgesMet 21 = .ok (.iand, 1) := by decide +kernel
theorem dX1_edgesMet_22 : decode cX1_edgesMet 22 = .ok (.ifCond .eq 12, 3) := by decide +kernel
theorem dX1_edgesMet_25 : decode cX1_edgesMet 25 = .ok (.iload_n 2, 1) := by decide +kernel
theorem dX1_edgesMet_26 : decode cX1_edgesMet 26 = .ok (.aload_n 1, 1) := by decide +kernel
theorem dX1_edgesMet_27 : decode cX1_edgesMet 27 = .ok (.getfield 42, 3) := by decide +kernel
theorem dX1_edgesMet_30 : decode cX1_edgesMet 30 = .ok (.iload_n 3, 1) := by decide +kernel
theorem dX1_edgesMet_31 : decode cX1_edgesMet 31 = .ok (.iaload, 1) := by decide +kernel
theorem dX1_edgesMet_32 : decode cX1_edgesMet 32 = .ok (.ior, 1) := by decide +kernel
theorem dX1_edgesMet_33 : decode cX1_edgesMet 33 = .ok (.istore_n 2, 1) := by decide +kernel
theorem dX1_edgesMet_34 : decode cX1_edgesMet 34 = .ok (.iinc 3 1, 3) := by decide +kernel
theorem dX1_edgesMet_37 : decode cX1_edgesMet 37 = .ok (.goto (-33), 3) := by decide +kernel
theorem dX1_edgesMet_40 : decode cX1_edgesMet 40 = .ok (.iload_n 2, 1) := by decide +kernel
theorem dX1_edgesMet_41 : decode cX1_edgesMet 41 = .ok (.ireturn, 1) := by decide +kernel
set_option maxRecDepth 20000 in
theorem ggX1_countPairs_J6_bitCount_0f7a4 : GoodIn wsX1_countPairs wsJ6_bitCount_0f7a4 := goodIn_r _ [5, 6, 7, 8] (by decide +kernel) (by decide +kernel)
set_option maxRecDepth 20000 in
theorem gX1_countPairs_J6_bitCount_0f7a4 : GoodIn wsX1_countPairs (va_wsS RX1 45 yJ6_bitCount_0f7a4 wsJ6_bitCount_0f7a4) := goodIn_app (goodIn_of _ (by decide +kernel)) ggX1_countPairs_J6_bitCount_0f7a4
theorem dX1_countPairs_0 : decode cX1_countPairs 0 = .ok (.iconst 0, 1) := by decide +kernel
theorem dX1_countPairs_1 : decode cX1_countPairs 1 = .ok (.istore_n 2, 1) := by decide +kernel
theorem dX1_countPairs_2 : decode cX1_countPairs 2 = .ok (.iconst 0, 1) := by decide +kernel
theorem dX1_countPairs_3 : decode cX1_countPairs 3 = .ok (.istore_n 3, 1) := by decide +kernel
theorem dX1_countPairs_4 : decode cX1_countPairs 4 = .ok (.iload_n 3, 1) := by decide +kernel
theorem dX1_countPairs_5 : decode cX1_countPairs 5 = .ok (.iload_n 1, 1) := by decide +kernel
theorem dX1_countPairs_6 : decode cX1_countPairs 6 = .ok (.if_icmp .ge 31, 3) := by decide +kernel
theorem dX1_countPairs_9 : decode cX1_countPairs 9 = .ok (.iconst 1, 1) := by decide +kernel
theorem dX1_countPairs_10 : decode cX1_countPairs 10 = .ok (.iload_n 3, 1) := by decide +kernel
theorem dX1_countPairs_11 : decode cX1_countPairs 11 = .ok (.ishl, 1) := by decide +kernel
theorem dX1_countPairs_12 : decode cX1_countPairs 12 = .ok (.iconst 1, 1) := by decide +kernel
theorem dX1_countPairs_13 : decode cX1_countPairs 13 = .ok (.isub, 1) := by decide +kernel
theorem dX1_countPairs_14 : decode cX1_countPairs 14 = .ok (.istore 4, 2) := by decide +kernel
theorem dX1_countPairs_16 : decode cX1_countPairs 16 = .ok (.iload_n 2, 1) := by decide +kernel
theorem dX1_countPairs_17 : decode cX1_countPairs 17 = .ok (.aload_n 0, 1) := by decide +kernel
theorem dX1_countPairs_18 : decode cX1_countPairs 18 = .ok (.getfield 9, 3) := by decide +kernel
theorem dX1_countPairs_21 : decode cX1_countPairs 21 = .ok (.iload_n 3, 1) := by decide +kernel
theorem dX1_countPairs_22 : decode cX1_countPairs 22 = .ok (.iaload, 1) := by decide +kernel
theorem dX1_countPairs_23 : decode cX1_countPairs 23 = .ok (.iload 4, 2) := by decide +kernel
theorem dX1_countPairs_25 : decode cX1_countPairs 25 = .ok (.iand, 1) := by decide +kernel
theorem dX1_countPairs_26 : decode cX1_countPairs 26 = .ok (.invokestatic 45, 3) := by decide +kernel
theorem dX1_countPairs_29 : decode cX1_countPairs 29 = .ok (.iadd, 1) := by decide +kernel
theorem dX1_countPairs_30 : decode cX1_countPairs 30 = .ok (.istore_n 2, 1) := by decide +kernel
theorem dX1_countPairs_31 : decode cX1_countPairs 31 = .ok (.iinc 3 1, 3) := by decide +kernel
theorem dX1_countPairs_34 : decode cX1_countPairs 34 = .ok (.goto (-30), 3) := by decide +kernel
theorem dX1_countPairs_37 : decode cX1_countPairs 37 = .ok (.iload_n 2, 1) := by decide +kernel
theorem dX1_countPairs_38 : decode cX1_countPairs 38 = .ok (.ireturn, 1) := by decide +kernel
theorem dX1_spread_0 : decode cX1_spread 0 = .ok (.iconst 0, 1) := by decide +kernel
theorem dX1_spread_1 : decode cX1_spread 1 = .ok (.istore_n 2, 1) := by decide +kernel
theorem dX1_spread_2 : decode cX1_spread 2 = .ok (.iload_n 2, 1) := by decide +kernel
theorem dX1_spread_3 : decode cX1_spread 3 = .ok (.iload_n 1, 1) := by decide +kernel
theorem dX1_spread_4 : decode cX1_spread 4 = .ok (.if_icmp .ge 54, 3) := by decide +kernel
theorem dX1_spread_7 : decode cX1_spread 7 = .ok (.iconst 0, 1) := by decide +kernel
theorem dX1_spread_8 : decode cX1_spread 8 = .ok (.istore_n 3, 1) := by decide +kernel
theorem dX1_spread_9 : decode cX1_spread 9 = .ok (.iload_n 3, 1) := by decide +kernel
theorem dX1_spread_10 : decode cX1_spread 10 = .ok (.iload_n 1, 1) := by decide +kernel
theorem dX1_spread_11 : decode cX1_spread 11 = .ok (.if_icmp .ge 41, 3) := by decide +kernel
theorem dX1_spread_14 : decode cX1_spread 14 = .ok (.aload_n 0, 1) := by decide +kernel
theorem dX1_spread_15 : decode cX1_spread 15 = .ok (.getfield 9, 3) := by decide +kernel
theorem dX1_spread_18 : decode cX1_spread 18 = .ok (.iload_n 3, 1) := by decide +kernel
theorem dX1_spread_19 : decode cX1_spread 19 = .ok (.iaload, 1) := by decide +kernel
theorem dX1_spread_20 : decode cX1_spread 20 = .ok (.iconst 1, 1) := by decide +kernel
theorem dX1_spread_21 : decode cX1_spread 21 = .ok (.iload_n 2, 1) := by decide +kernel
theorem dX1_spread_22 : decode cX1_spread 22 = .ok (.ishl, 1) := by decide +kernel
theorem dX1_spread_23 : decode cX1_spread 23 = .ok (.iand, 1) := by decide +kernel
theorem dX1_spread_24 : decode cX1_spread 24 = .ok (.ifCond .eq 22, 3) := by decide +kernel
theorem dX1_spread_27 : decode cX1_spread 27 = .ok (.aload_n 0, 1) := by decide +kernel
theorem dX1_spread_28 : decode cX1_spread 28 = .ok (.getfield 9, 3) := by decide +kernel
theorem dX1_spread_31 : decode cX1_spread 31 = .ok (.iload_n 3, 1) := by decide +kernel
theorem dX1_spread_32 : decode cX1_spread 32 = .ok (.aload_n 0, 1) := by decide +kernel
theorem dX1_spread_33 : decode cX1_spread 33 = .ok (.getfield 9, 3) := by decide +kernel
theorem dX1_spread_36 : decode cX1_spread 36 = .ok (.iload_n 3, 1) := by decide +kernel
theorem dX1_spread_37 : decode cX1_spread 37 = .ok (.iaload, 1) := by decide +kernel
theorem dX1_spread_38 : decode cX1_spread 38 = .ok (.aload_n 0, 1) := by decide +kernel
theorem dX1_spread_39 : decode cX1_spread 39 = .ok (.getfield 9, 3) := by decide +kernel
theorem dX1_spread_42 : decode cX1_spread 42 = .ok (.iload_n 2, 1) := by decide +kernel
theorem dX1_spread_43 : decode cX1_spread 43 = .ok (.iaload, 1) := by decide +kernel
theorem dX1_spread_44 : decode cX1_spread 44 = .ok (.ior, 1) := by decide +kernel
theorem dX1_spread_45 : decode cX1_spread 45 = .ok (.iastore, 1) := by decide +kernel
theorem dX1_spread_46 : decode cX1_spread 46 = .ok (.iinc 3 1, 3) := by decide +kernel
theorem dX1_spread_49 : decode cX1_spread 49 = .ok (.goto (-40), 3) := by decide +kernel
theorem dX1_spread_52 : decode cX1_spread 52 = .ok (.iinc 2 1, 3) := by decide +kernel
theorem dX1_spread_55 : decode cX1_spread 55 = .ok (.goto (-53), 3) := by decide +kernel
theorem dX1_spread_58 : decode cX1_spread 58 = .ok (.return_, 1) := by decide +kernel
theorem dX1_countParts_0 : decode cX1_countParts 0 = .ok (.iconst 0, 1) := by decide +kernel
theorem dX1_countParts_1 : decode cX1_countParts 1 = .ok (.istore_n 2, 1) := by decide +kernel
theorem dX1_countParts_2 : decode cX1_countParts 2 = .ok (.iconst 0, 1) := by decide +kernel
theorem dX1_countParts_3 : decode cX1_countParts 3 = .ok (.istore_n 3, 1) := by decide +kernel
theorem dX1_countParts_4 : decode cX1_countParts 4 = .ok (.iload_n 3, 1) := by decide +kernel
theorem dX1_countParts_5 : decode cX1_countParts 5 = .ok (.iload_n 1, 1) := by decide +kernel
theorem dX1_countParts_6 : decode cX1_countParts 6 = .ok (.if_icmp .ge 31, 3) := by decide +kernel
theorem dX1_countParts_9 : decode cX1_countParts 9 = .ok (.iconst 1, 1) := by decide +kernel
theorem dX1_countParts_10 : decode cX1_countParts 10 = .ok (.iload_n 3, 1) := by decide +kernel
theorem dX1_countParts_11 : decode cX1_countParts 11 = .ok (.ishl, 1) := by decide +kernel
theorem dX1_countParts_12 : decode cX1_countParts 12 = .ok (.iconst 1, 1) := by decide +kernel
theorem dX1_countParts_13 : decode cX1_countParts 13 = .ok (.isub, 1) := by decide +kernel
theorem dX1_countParts_14 : decode cX1_countParts 14 = .ok (.istore 4, 2) := by decide +kernel
theorem dX1_countParts_16 : decode cX1_countParts 16 = .ok (.aload_n 0, 1) := by decide +kernel
theorem dX1_countParts_17 : decode cX1_countParts 17 = .ok (.getfield 9, 3) := by decide +kernel
theorem dX1_countParts_20 : decode cX1_countParts 20 = .ok (.iload_n 3, 1) := by decide +kernel
theorem dX1_countParts_21 : decode cX1_countParts 21 = .ok (.iaload, 1) := by decide +kernel
theorem dX1_countParts_22 : decode cX1_countParts 22 = .ok (.iload 4, 2) := by decide +kernel
theorem dX1_countParts_24 : decode cX1_countParts 24 = .ok (.iand, 1) := by decide +kernel
theorem dX1_countParts_25 : decode cX1_countParts 25 = .ok (.ifCond .ne 6, 3) := by decide +kernel
theorem dX1_countParts_28 : decode cX1_countParts 28 = .ok (.iinc 2 1, 3) := by decide +kernel
theorem dX1_countParts_31 : decode cX1_countParts 31 = .ok (.iinc 3 1, 3) := by decide +kernel
theorem dX1_countParts_34 : decode cX1_countParts 34 = .ok (.goto (-30), 3) := by decide +kernel
theorem dX1_countParts_37 : decode cX1_countParts 37 = .ok (.iload_n 2, 1) := by decide +kernel
theorem dX1_countParts_38 : decode cX1_countParts 38 = .ok (.ireturn, 1) := by decide +kernel
theorem dX2_init_0 : decode cX2_init 0 = .ok (.aload_n 0, 1) := by decide +kernel
theorem dX2_init_1 : decode cX2_init 1 = .ok (.invokespecial 3, 3) := by decide +kernel
theorem dX2_init_4 : decode cX2_init 4 = .ok (.aload_n 0, 1) := by decide +kernel
theorem dX2_init_5 : decode cX2_init 5 = .ok (.bipush 8, 2) := by decide +kernel
theorem dX2_init_7 : decode cX2_init 7 = .ok (.sipush 276, 3) := by decide +kernel
theorem dX2_init_10 : decode cX2_init 10 = .ok (.multianewarray 11 2, 4) := by decide +kernel
theorem dX2_init_14 : decode cX2_init 14 = .ok (.putfield 13, 3) := by decide +kernel
theorem dX2_init_17 : decode cX2_init 17 = .ok (.aload_n 0, 1) := by decide +kernel
theorem dX2_init_18 : decode cX2_init 18 = .ok (.iconst 0, 1) := by decide +kernel
theorem dX2_init_19 : decode cX2_init 19 = .ok (.putfield 16, 3) := by decide +kernel
theorem dX2_init_22 : decode cX2_init 22 = .ok (.return_, 1) := by decide +kernel
set_option maxRecDepth 20000 in
theorem ggX2_cut_X2_add : GoodIn wsX2_cut wsX2_add := goodIn_r _ [6, 7, 8, 1, 9, 10, 11, 12, 13, 14, 15, 16, 17, 18, 19, 20, 21, 22, 23, 24, 25, 26, 27, 28, 29, 30, 31, 32, 33, 34, 35, 36, 37, 40, 41, 42, 43, 44, 38, 39, 45, 46, 47, 48, 49, 50] (by decide +kernel) (by decide +kernel)
set_option maxRecDepth 20000 in
theorem gX2_cut_X2_add : GoodIn wsX2_cut (wsV RX2 27 RX2 yX2_add wsX2_add) := goodIn_app (goodIn_of _ (by decide +kernel)) ggX2_cut_X2_add
theorem dX2_cut_0 : decode cX2_cut 0 = .ok (.aload_n 0, 1) := by decide +kernel
theorem dX2_cut_1 : decode cX2_cut 1 = .ok (.iconst 0, 1) := by decide +kernel
theorem dX2_cut_2 : decode cX2_cut 2 = .ok (.putfield 16, 3) := by decide +kernel
theorem dX2_cut_5 : decode cX2_cut 5 = .ok (.iconst 0, 1) := by decide +kernel
theorem dX2_cut_6 : decode cX2_cut 6 = .ok (.istore_n 3, 1) := by decide +kernel
theorem dX2_cut_7 : decode cX2_cut 7 = .ok (.iload_n 3, 1) := by decide +kernel
theorem dX2_cut_8 : decode cX2_cut 8 = .ok (.aload_n 2, 1) := by decide +kernel
theorem dX2_cut_9 : decode cX2_cut 9 = .ok (.getfield 20, 3) := by decide +kernel
theorem dX2_cut_12 : decode cX2_cut 12 = .ok (.if_icmp .ge 89, 3) := by decide +kernel
theorem dX2_cut_15 : decode cX2_cut 15 = .ok (.aload_n 2, 1) := by decide +kernel
theorem dX2_cut_16 : decode cX2_cut 16 = .ok (.getfield 23, 3) := by decide +kernel
theorem dX2_cut_19 : decode cX2_cut 19 = .ok (.iload_n 3, 1) := by decide +kernel
theorem dX2_cut_20 : decode cX2_cut 20 = .ok (.iaload, 1) := by decide +kernel
theorem dX2_cut_21 : decode cX2_cut 21 = .ok (.istore 4, 2) := by decide +kernel
theorem dX2_cut_23 : decode cX2_cut 23 = .ok (.iload_n 3, 1) := by decide +kernel
theorem dX2_cut_24 : decode cX2_cut 24 = .ok (.iconst 1, 1) := by decide +kernel
theorem dX2_cut_25 : decode cX2_cut 25 = .ok (.iadd, 1) := by decide +kernel
theorem dX2_cut_26 : decode cX2_cut 26 = .ok (.istore 5, 2) := by decide +kernel
theorem dX2_cut_28 : decode cX2_cut 28 = .ok (.iload 5, 2) := by decide +kernel
theorem dX2_cut_30 : decode cX2_cut 30 = .ok (.aload_n 2, 1) := by decide +kernel
theorem dX2_cut_31 : decode cX2_cut 31 = .ok (.getfield 20, 3) := by decide +kernel
theorem dX2_cut_34 : decode cX2_cut 34 = .ok (.if_icmp .ge 61, 3) := by decide +kernel
theorem dX2_cut_37 : decode cX2_cut 37 = .ok (.iload 4, 2) := by decide +kernel
theorem dX2_cut_39 : decode cX2_cut 39 = .ok (.ifCond .eq 56, 3) := by decide +kernel
theorem dX2_cut_42 : decode cX2_cut 42 = .ok (.iload 4, 2) := by decide +kernel
theorem dX2_cut_44 : decode cX2_cut 44 = .ok (.aload_n 2, 1) := by decide +kernel
theorem dX2_cut_45 : decode cX2_cut 45 = .ok (.getfield 23, 3) := by decide +kernel
theorem dX2_cut_48 : decode cX2_cut 48 = .ok (.iload 5, 2) := by decide +kernel
theorem dX2_cut_50 : decode cX2_cut 50 = .ok (.iaload, 1) := by decide +kernel
theorem dX2_cut_51 : decode cX2_cut 51 = .ok (.iand, 1) := by decide +kernel
theorem dX2_cut_52 : decode cX2_cut 52 = .ok (.istore 6, 2) := by decide +kernel
theorem dX2_cut_54 : decode cX2_cut 54 = .ok (.iload 6, 2) := by decide +kernel
theorem dX2_cut_56 : decode cX2_cut 56 = .ok (.ifCond .eq 24, 3) := by decide +kernel
theorem dX2_cut_59 : decode cX2_cut 59 = .ok (.aload_n 0, 1) := by decide +kernel
theorem dX2_cut_60 : decode cX2_cut 60 = .ok (.getfield 16, 3) := by decide +kernel
theorem dX2_cut_63 : decode cX2_cut 63 = .ok (.sipush 276, 3) := by decide +kernel
theorem dX2_cut_66 : decode cX2_cut 66 = .ok (.if_icmp .ge 14, 3) := by decide +kernel
theorem dX2_cut_69 : decode cX2_cut 69 = .ok (.aload_n 0, 1) := by decide +kernel
theorem dX2_cut_70 : decode cX2_cut 70 = .ok (.aload_n 1, 1) := by decide +kernel
theorem dX2_cut_71 : decode cX2_cut 71 = .ok (.aload_n 2, 1) := by decide +kernel
theorem dX2_cut_72 : decode cX2_cut 72 = .ok (.iload_n 3, 1) := by decide +kernel
theorem dX2_cut_73 : decode cX2_cut 73 = .ok (.iload 5, 2) := by decide +kernel
theorem dX2_cut_75 : decode cX2_cut 75 = .ok (.iload 6, 2) := by decide +kernel
theorem dX2_cut_77 : decode cX2_cut 77 = .ok (.invokevirtual 27, 3) := by decide +kernel
theorem dX2_cut_80 : decode cX2_cut 80 = .ok (.iload 4, 2) := by decide +kernel
theorem dX2_cut_82 : decode cX2_cut 82 = .ok (.iload 6, 2) := by decide +kernel
theorem dX2_cut_84 : decode cX2_cut 84 = .ok (.iconst (-1), 1) := by decide +kernel
theorem dX2_cut_85 : decode cX2_cut 85 = .ok (.ixor, 1) := by decide +kernel
theorem dX2_cut_86 : decode cX2_cut 86 = .ok (.iand, 1) := by decide +kernel
theorem dX2_cut_87 : decode cX2_cut 87 = .ok (.istore 4, 2) := by decide +kernel
theorem dX2_cut_89 : decode cX2_cut 89 = .ok (.iinc 5 1, 3) := by decide +kernel
theorem dX2_cut_92 : decode cX2_cut 92 = .ok (.goto (-64), 3) := by decide +kernel
theorem dX2_cut_95 : decode cX2_cut 95 = .ok (.iinc 3 1, 3) := by decide +kernel
theorem dX2_cut_98 : decode cX2_cut 98 = .ok (.goto (-91), 3) := by decide +kernel
theorem dX2_cut_101 : decode cX2_cut 101 = .ok (.return_, 1) := by decide +kernel
set_option maxRecDepth 20000 in
theorem ggX2_isLeftInside_X2_isInside : GoodIn wsX2_isLeftInside wsX2_isInside := goodIn_r _ [5] (by decide +kernel) (by decide +kernel)
set_option maxRecDepth 20000 in
theorem gX2_isLeftInside_X2_isInside : GoodIn wsX2_isLeftInside (va_wsS RX2 31 yX2_isInside wsX2_isInside) := goodIn_app (goodIn_of _ (by decide +kernel)) ggX2_isLeftInside_X2_isInside
theorem dX2_isLeftInside_0 : decode cX2_isLeftInside 0 = .ok (.iload_n 2, 1) := by decide +kernel
theorem dX2_isLeftInside_1 : decode cX2_isLeftInside 1 = .ok (.aload_n 0, 1) := by decide +kernel
theorem dX2_isLeftInside_2 : decode cX2_isLeftInside 2 = .ok (.getfield 13, 3) := by decide +kernel
theorem dX2_isLeftInside_5 : decode cX2_isLeftInside 5 = .ok (.iconst 4, 1) := by decide +kernel
theorem dX2_isLeftInside_6 : decode cX2_isLeftInside 6 = .ok (.aaload, 1) := by decide +kernel
theorem dX2_isLeftInside_7 : decode cX2_isLeftInside 7 = .ok (.iload_n 1, 1) := by decide +kernel
theorem dX2_isLeftInside_8 : decode cX2_isLeftInside 8 = .ok (.iaload, 1) := by decide +kernel
theorem dX2_isLeftInside_9 : decode cX2_isLeftInside 9 = .ok (.ifCond .eq 7, 3) := by decide +kernel
theorem dX2_isLeftInside_12 : decode cX2_isLeftInside 12 = .ok (.iconst 1, 1) := by decide +kernel
theorem dX2_isLeftInside_13 : decode cX2_isLeftInside 13 = .ok (.goto 4, 3) := by decide +kernel
theorem dX2_isLeftInside_16 : decode cX2_isLeftInside 16 = .ok (.iconst 0, 1) := by decide +kernel
theorem dX2_isLeftInside_17 : decode cX2_isLeftInside 17 = .ok (.aload_n 0, 1) := by decide +kernel
theorem dX2_isLeftInside_18 : decode cX2_isLeftInside 18 = .ok (.getfield 13, 3) := by decide +kernel
theorem dX2_isLeftInside_21 : decode cX2_isLeftInside 21 = .ok (.iconst 5, 1) := by decide +kernel
theorem dX2_isLeftInside_22 : decode cX2_isLeftInside 22 = .ok (.aaload, 1) := by decide +kernel
theorem dX2_isLeftInside_23 : decode cX2_isLeftInside 23 = .ok (.iload_n 1, 1) := by decide +kernel
theorem dX2_isLeftInside_24 : decode cX2_isLeftInside 24 = .ok (.iaload, 1) := by decide +kernel
theorem dX2_isLeftInside_25 : decode cX2_isLeftInside 25 = .ok (.ifCond .eq 7, 3) := by decide +kernel
theorem dX2_isLeftInside_28 : decode cX2_isLeftInside 28 = .ok (.iconst 1, 1) := by decide +kernel
theorem dX2_isLeftInside_29 : decode cX2_isLeftInside 29 = .ok (.goto 4, 3) := by decide +kernel
theorem dX2_isLeftInside_32 : decode cX2_isLeftInside 32 = .ok (.iconst 0, 1) := by decide +kernel
theorem dX2_isLeftInside_33 : decode cX2_isLeftInside 33 = .ok (.invokestatic 31, 3) := by decide +kernel
theorem dX2_isLeftInside_36 : decode cX2_isLeftInside 36 = .ok (.ireturn, 1) := by decide +kernel
set_option maxRecDepth 20000 in
theorem ggX2_isRightInside_X2_isInside : GoodIn wsX2_isRightInside wsX2_isInside := goodIn_r _ [5] (by decide +kernel) (by decide +kernel)
set_option maxRecDepth 20000 in
theorem gX2_isRightInside_X2_isInside : GoodIn wsX2_isRightInside (va_wsS RX2 31 yX2_isInside wsX2_isInside) := goodIn_app (goodIn_of _ (by decide +kernel)) ggX2_isRightInside_X2_isInside
theorem dX2_isRightInside_0 : decode cX2_isRightInside 0 = .ok (.iload_n 2, 1) := by decide +kernel
theorem dX2_isRightInside_1 : decode cX2_isRightInside 1 = .ok (.aload_n 0, 1) := by decide +kernel
theorem dX2_isRightInside_2 : decode cX2_isRightInside 2 = .ok (.getfield 13, 3) := by decide +kernel
theorem dX2_isRightInside_5 : decode cX2_isRightInside 5 = .ok (.bipush 6, 2) := by decide +kernel
theorem dX2_isRightInside_7 : decode cX2_isRightInside 7 = .ok (.aaload, 1) := by decide +kernel
theorem dX2_isRightInside_8 : decode cX2_isRightInside 8 = .ok (.iload_n 1, 1) := by decide +kernel
theorem dX2_isRightInside_9 : decode cX2_isRightInside 9 = .ok (.iaload, 1) := by decide +kernel
theorem dX2_isRightInside_10 : decode cX2_isRightInside 10 = .ok (.ifCond .eq 7, 3) := by decide +kernel
theorem dX2_isRightInside_13 : decode cX2_isRightInside 13 = .ok (.iconst 1, 1) := by decide +kernel
theorem dX2_isRightInside_14 : decode cX2_isRightInside 14 = .ok (.goto 4, 3) := by decide +kernel
theorem dX2_isRightInside_17 : decode cX2_isRightInside 17 = .ok (.iconst 0, 1) := by decide +kernel
theorem dX2_isRightInside_18 : decode cX2_isRightInside 18 = .ok (.aload_n 0, 1) := by decide +kernel
theorem dX2_isRightInside_19 : decode cX2_isRightInside 19 = .ok (.getfield 13, 3) := by decide +kernel
theorem dX2_isRightInside_22 : decode cX2_isRightInside 22 = .ok (.bipush 7, 2) := by decide +kernel
theorem dX2_isRightInside_24 : decode cX2_isRightInside 24 = .ok (.aaload, 1) := by decide +kernel
theorem dX2_isRightInside_25 : decode cX2_isRightInside 25 = .ok (.iload_n 1, 1) := by decide +kernel
theorem dX2_isRightInside_26 : decode cX2_isRightInside 26 = .ok (.iaload, 1) := by decide +kernel
theorem dX2_isRightInside_27 : decode cX2_isRightInside 27 = .ok (.ifCond .eq 7, 3) := by decide +kernel
theorem dX2_isRightInside_30 : decode cX2_isRightInside 30 = .ok (.iconst 1, 1) := by decide +kernel
theorem dX2_isRightInside_31 : decode cX2_isRightInside 31 = .ok (.goto 4, 3) := by decide +kernel
theorem dX2_isRightInside_34 : decode cX2_isRightInside 34 = .ok (.iconst 0, 1) := by decide +kernel
theorem dX2_isRightInside_35 : decode cX2_isRightInside 35 = .ok (.invokestatic 31, 3) := by decide +kernel
theorem dX2_isRightInside_38 : decode cX2_isRightInside 38 = .ok (.ireturn, 1) := by decide +kernel
set_option maxRecDepth 20000 in
theorem ggX2_divides_X2_isLeftInside : GoodIn wsX2_divides wsX2_isLeftInside := goodIn_r _ [5, 6, 7, 8, 4, 9, 14, 15] (by decide +kernel) (by decide +kernel)
set_option maxRecDepth 20000 in
theorem gX2_divides_X2_isLeftInside : GoodIn wsX2_divides (wsV RX2 35 RX2 yX2_isLeftInside wsX2_isLeftInside) := goodIn_app (goodIn_of _ (by decide +kernel)) ggX2_divides_X2_isLeftInside
set_option maxRecDepth 20000 in
theorem ggX2_divides_X2_isRightInside : GoodIn wsX2_divides wsX2_isRightInside := goodIn_r _ [13, 6, 7, 8, 4, 9, 14, 15] (by decide +kernel) (by decide +kernel)
set_option maxRecDepth 20000 in
theorem gX2_divides_X2_isRightInside : GoodIn wsX2_divides (wsV RX2 39 RX2 yX2_isRightInside wsX2_isRightInside) := goodIn_app (goodIn_of _ (by decide +kernel)) ggX2_divides_X2_isRightInside
theorem dX2_divides_0 : decode cX2_divides 0 = .ok (.aload_n 0, 1) := by decide +kernel
theorem dX2_divides_1 : decode cX2_divides 1 = .ok (.iload_n 1, 1) := by decide +kernel
theorem dX2_divides_2 : decode cX2_divides 2 = .ok (.iload_n 2, 1) := by decide +kernel
theorem dX2_divides_3 : decode cX2_divides 3 = .ok (.invokevirtual 35, 3) := by decide +kernel
theorem dX2_divides_6 : decode cX2_divides 6 = .ok (.aload_n 0, 1) := by decide +kernel
theorem dX2_divides_7 : decode cX2_divides 7 = .ok (.iload_n 1, 1) := by decide +kernel
theorem dX2_divides_8 : decode cX2_divides 8 = .ok (.iload_n 2, 1) := by decide +kernel
theorem dX2_divides_9 : decode cX2_divides 9 = .ok (.invokevirtual 39, 3) := by decide +kernel
theorem dX2_divides_12 : decode cX2_divides 12 = .ok (.if_icmp .eq 7, 3) := by decide +kernel
theorem dX2_divides_15 : decode cX2_divides 15 = .ok (.iconst 1, 1) := by decide +kernel
theorem dX2_divides_16 : decode cX2_divides 16 = .ok (.goto 4, 3) := by decide +kernel
theorem dX2_divides_19 : decode cX2_divides 19 = .ok (.iconst 0, 1) := by decide +kernel
theorem dX2_divides_20 : decode cX2_divides 20 = .ok (.ireturn, 1) := by decide +kernel
set_option maxRecDepth 20000 in
theorem ggX2_add_X0_above : GoodIn wsX2_add wsX0_above := goodIn_r _ [8, 9, 10, 11, 12, 13, 14, 7, 15, 16, 17, 18, 19, 20, 21, 22, 23, 24, 25, 40, 41, 42, 43, 44, 45] (by decide +kernel) (by decide +kernel)
set_option maxRecDepth 20000 in
theorem gX2_add_X0_above : GoodIn wsX2_add (wsV RX2 53 RX0 yX0_above wsX0_above) := goodIn_app (goodIn_of _ (by decide +kernel)) ggX2_add_X0_above
set_option maxRecDepth 20000 in
theorem ggX2_add_J6_bitCount_0f7a4 : GoodIn wsX2_add wsJ6_bitCount_0f7a4 := goodIn_r _ [29, 30, 31, 32] (by decide +kernel) (by decide +kernel)
set_option maxRecDepth 20000 in
theorem gX2_add_J6_bitCount_0f7a4 : GoodIn wsX2_add (va_wsS RX2 62 yJ6_bitCount_0f7a4 wsJ6_bitCount_0f7a4) := goodIn_app (goodIn_of _ (by decide +kernel)) ggX2_add_J6_bitCount_0f7a4
theorem dX2_add_0 : decode cX2_add 0 = .ok (.aload_n 2, 1) := by decide +kernel
theorem dX2_add_1 : decode cX2_add 1 = .ok (.getfield 42, 3) := by decide +kernel
theorem dX2_add_4 : decode cX2_add 4 = .ok (.iload_n 3, 1) := by decide +kernel
theorem dX2_add_5 : decode cX2_add 5 = .ok (.iaload, 1) := by decide +kernel
theorem dX2_add_6 : decode cX2_add 6 = .ok (.i2l, 1) := by decide +kernel
theorem dX2_add_7 : decode cX2_add 7 = .ok (.lstore 6, 2) := by decide +kernel
theorem dX2_add_9 : decode cX2_add 9 = .ok (.aload_n 2, 1) := by decide +kernel
theorem dX2_add_10 : decode cX2_add 10 = .ok (.getfield 42, 3) := by decide +kernel
theorem dX2_add_13 : decode cX2_add 13 = .ok (.iload 4, 2) := by decide +kernel
theorem dX2_add_15 : decode cX2_add 15 = .ok (.iaload, 1) := by decide +kernel
theorem dX2_add_16 : decode cX2_add 16 = .ok (.i2l, 1) := by decide +kernel
theorem dX2_add_17 : decode cX2_add 17 = .ok (.lstore 8, 2) := by decide +kernel
theorem dX2_add_19 : decode cX2_add 19 = .ok (.aload_n 2, 1) := by decide +kernel
theorem dX2_add_20 : decode cX2_add 20 = .ok (.getfield 45, 3) := by decide +kernel
theorem dX2_add_23 : decode cX2_add 23 = .ok (.iload_n 3, 1) := by decide +kernel
theorem dX2_add_24 : decode cX2_add 24 = .ok (.iaload, 1) := by decide +kernel
theorem dX2_add_25 : decode cX2_add 25 = .ok (.i2l, 1) := by decide +kernel
theorem dX2_add_26 : decode cX2_add 26 = .ok (.lload 8, 2) := by decide +kernel
theorem dX2_add_28 : decode cX2_add 28 = .ok (.lmul, 1) := by decide +kernel
theorem dX2_add_29 : decode cX2_add 29 = .ok (.lstore 10, 2) := by decide +kernel
theorem dX2_add_31 : decode cX2_add 31 = .ok (.aload_n 2, 1) := by decide +kernel
theorem dX2_add_32 : decode cX2_add 32 = .ok (.getfield 45, 3) := by decide +kernel
theorem dX2_add_35 : decode cX2_add 35 = .ok (.iload 4, 2) := by decide +kernel
theorem dX2_add_37 : decode cX2_add 37 = .ok (.iaload, 1) := by decide +kernel
theorem dX2_add_38 : decode cX2_add 38 = .ok (.i2l, 1) := by decide +kernel
theorem dX2_add_39 : decode cX2_add 39 = .ok (.lload 6, 2) := by decide +kernel
theorem dX2_add_41 : decode cX2_add 41 = .ok (.lmul, 1) := by decide +kernel
theorem dX2_add_42 : decode cX2_add 42 = .ok (.lstore 12, 2) := by decide +kernel
theorem dX2_add_44 : decode cX2_add 44 = .ok (.aload_n 2, 1) := by decide +kernel
theorem dX2_add_45 : decode cX2_add 45 = .ok (.getfield 48, 3) := by decide +kernel
theorem dX2_add_48 : decode cX2_add 48 = .ok (.iload_n 3, 1) := by decide +kernel
theorem dX2_add_49 : decode cX2_add 49 = .ok (.iaload, 1) := by decide +kernel
theorem dX2_add_50 : decode cX2_add 50 = .ok (.i2l, 1) := by decide +kernel
theorem dX2_add_51 : decode cX2_add 51 = .ok (.lload 8, 2) := by decide +kernel
theorem dX2_add_53 : decode cX2_add 53 = .ok (.lmul, 1) := by decide +kernel
theorem dX2_add_54 : decode cX2_add 54 = .ok (.lstore 14, 2) := by decide +kernel
theorem dX2_add_56 : decode cX2_add 56 = .ok (.aload_n 2, 1) := by decide +kernel
theorem dX2_add_57 : decode cX2_add 57 = .ok (.getfield 48, 3) := by decide +kernel
theorem dX2_add_60 : decode cX2_add 60 = .ok (.iload 4, 2) := by decide +kernel
theorem dX2_add_62 : decode cX2_add 62 = .ok (.iaload, 1) := by decide +kernel
theorem dX2_add_63 : decode cX2_add 63 = .ok (.i2l, 1) := by decide +kernel
theorem dX2_add_64 : decode cX2_add 64 = .ok (.lload 6, 2) := by decide +kernel
theorem dX2_add_66 : decode cX2_add 66 = .ok (.lmul, 1) := by decide +kernel
theorem dX2_add_67 : decode cX2_add 67 = .ok (.lstore 16, 2) := by decide +kernel
theorem dX2_add_69 : decode cX2_add 69 = .ok (.aload_n 1, 1) := by decide +kernel
theorem dX2_add_70 : decode cX2_add 70 = .ok (.lload 10, 2) := by decide +kernel
theorem dX2_add_72 : decode cX2_add 72 = .ok (.lload 12, 2) := by decide +kernel
theorem dX2_add_74 : decode cX2_add 74 = .ok (.ladd, 1) := by decide +kernel
theorem dX2_add_75 : decode cX2_add 75 = .ok (.lload 14, 2) := by decide +kernel
theorem dX2_add_77 : decode cX2_add 77 = .ok (.lload 16, 2) := by decide +kernel
theorem dX2_add_79 : decode cX2_add 79 = .ok (.ladd, 1) := by decide +kernel
theorem dX2_add_80 : decode cX2_add 80 = .ok (.ldc2_w 51, 3) := by decide +kernel
theorem dX2_add_83 : decode cX2_add 83 = .ok (.lload 6, 2) := by decide +kernel
theorem dX2_add_85 : decode cX2_add 85 = .ok (.lmul, 1) := by decide +kernel
theorem dX2_add_86 : decode cX2_add 86 = .ok (.lload 8, 2) := by decide +kernel
theorem dX2_add_88 : decode cX2_add 88 = .ok (.lmul, 1) := by decide +kernel
theorem dX2_add_89 : decode cX2_add 89 = .ok (.invokevirtual 53, 3) := by decide +kernel
theorem dX2_add_92 : decode cX2_add 92 = .ok (.istore 18, 2) := by decide +kernel
theorem dX2_add_94 : decode cX2_add 94 = .ok (.aload_n 0, 1) := by decide +kernel
theorem dX2_add_95 : decode cX2_add 95 = .ok (.getfield 13, 3) := by decide +kernel
theorem dX2_add_98 : decode cX2_add 98 = .ok (.iconst 0, 1) := by decide +kernel
theorem dX2_add_99 : decode cX2_add 99 = .ok (.aaload, 1) := by decide +kernel
theorem dX2_add_100 : decode cX2_add 100 = .ok (.aload_n 0, 1) := by decide +kernel
theorem dX2_add_101 : decode cX2_add 101 = .ok (.getfield 16, 3) := by decide +kernel
theorem dX2_add_104 : decode cX2_add 104 = .ok (.iload_n 3, 1) := by decide +kernel
theorem dX2_add_105 : decode cX2_add 105 = .ok (.iastore, 1) := by decide +kernel
theorem dX2_add_106 : decode cX2_add 106 = .ok (.aload_n 0, 1) := by decide +kernel
theorem dX2_add_107 : decode cX2_add 107 = .ok (.getfield 13, 3) := by decide +kernel
theorem dX2_add_110 : decode cX2_add 110 = .ok (.iconst 1, 1) := by decide +kernel
theorem dX2_add_111 : decode cX2_add 111 = .ok (.aaload, 1) := by decide +kernel
theorem dX2_add_112 : decode cX2_add 112 = .ok (.aload_n 0, 1) := by decide +kernel
theorem dX2_add_113 : decode cX2_add 113 = .ok (.getfield 16, 3) := by decide +kernel
theorem dX2_add_116 : decode cX2_add 116 = .ok (.iload 4, 2) := by decide +kernel
theorem dX2_add_118 : decode cX2_add 118 = .ok (.iastore, 1) := by decide +kernel
theorem dX2_add_119 : decode cX2_add 119 = .ok (.iconst 0, 1) := by decide +kernel
theorem dX2_add_120 : decode cX2_add 120 = .ok (.istore 19, 2) := by decide +kernel
theorem dX2_add_122 : decode cX2_add 122 = .ok (.iload 19, 2) := by decide +kernel
theorem dX2_add_124 : decode cX2_add 124 = .ok (.iconst 2, 1) := by decide +kernel
theorem dX2_add_125 : decode cX2_add 125 = .ok (.if_icmp .ge 124, 3) := by decide +kernel
theorem dX2_add_128 : decode cX2_add 128 = .ok (.aload_n 1, 1) := by decide +kernel
theorem dX2_add_129 : decode cX2_add 129 = .ok (.getfield 59, 3) := by decide +kernel
theorem dX2_add_132 : decode cX2_add 132 = .ok (.iload 19, 2) := by decide +kernel
theorem dX2_add_134 : decode cX2_add 134 = .ok (.iaload, 1) := by decide +kernel
theorem dX2_add_135 : decode cX2_add 135 = .ok (.istore 20, 2) := by decide +kernel
theorem dX2_add_137 : decode cX2_add 137 = .ok (.iload 5, 2) := by decide +kernel
theorem dX2_add_139 : decode cX2_add 139 = .ok (.iload 20, 2) := by decide +kernel
theorem dX2_add_141 : decode cX2_add 141 = .ok (.iand, 1) := by decide +kernel
theorem dX2_add_142 : decode cX2_add 142 = .ok (.invokestatic 62, 3) := by decide +kernel
theorem dX2_add_145 : decode cX2_add 145 = .ok (.istore 21, 2) := by decide +kernel
theorem dX2_add_147 : decode cX2_add 147 = .ok (.iload 18, 2) := by decide +kernel
theorem dX2_add_149 : decode cX2_add 149 = .ok (.iload 20, 2) := by decide +kernel
theorem dX2_add_151 : decode cX2_add 151 = .ok (.iand, 1) := by decide +kernel
theorem dX2_add_152 : decode cX2_add 152 = .ok (.invokestatic 62, 3) := by decide +kernel
theorem dX2_add_155 : decode cX2_add 155 = .ok (.iconst 1, 1) := by decide +kernel
theorem dX2_add_156 : decode cX2_add 156 = .ok (.iand, 1) := by decide +kernel
theorem dX2_add_157 : decode cX2_add 157 = .ok (.istore 22, 2) := by decide +kernel
theorem dX2_add_159 : decode cX2_add 159 = .ok (.iload 22, 2) := by decide +kernel
theorem dX2_add_161 : decode cX2_add 161 = .ok (.iload 21, 2) := by decide +kernel
theorem dX2_add_163 : decode cX2_add 163 = .ok (.iconst 1, 1) := by decide +kernel
theorem dX2_add_164 : decode cX2_add 164 = .ok (.iand, 1) := by decide +kernel
theorem dX2_add_165 : decode cX2_add 165 = .ok (.ixor, 1) := by decide +kernel
theorem dX2_add_166 : decode cX2_add 166 = .ok (.istore 23, 2) := by decide +kernel
theorem dX2_add_168 : decode cX2_add 168 = .ok (.aload_n 0, 1) := by decide +kernel
theorem dX2_add_169 : decode cX2_add 169 = .ok (.getfield 13, 3) := by decide +kernel
theorem dX2_add_172 : decode cX2_add 172 = .ok (.iconst 2, 1) := by decide +kernel
theorem dX2_add_173 : decode cX2_add 173 = .ok (.iload 19, 2) := by decide +kernel
theorem dX2_add_175 : decode cX2_add 175 = .ok (.iadd, 1) := by decide +kernel
theorem dX2_add_176 : decode cX2_add 176 = .ok (.aaload, 1) := by decide +kernel
theorem dX2_add_177 : decode cX2_add 177 = .ok (.aload_n 0, 1) := by decide +kernel
theorem dX2_add_178 : decode cX2_add 178 = .ok (.getfield 16, 3) := by decide +kernel
theorem dX2_add_181 : decode cX2_add 181 = .ok (.iload 21, 2) := by decide +kernel
theorem dX2_add_183 : decode cX2_add 183 = .ok (.iastore, 1) := by decide +kernel
theorem dX2_add_184 : decode cX2_add 184 = .ok (.aload_n 0, 1) := by decide +kernel
theorem dX2_add_185 : decode cX2_add 185 = .ok (.getfield 13, 3) := by decide +kernel
theorem dX2_add_188 : decode cX2_add 188 = .ok (.iconst 4, 1) := by decide +kernel
theorem dX2_add_189 : decode cX2_add 189 = .ok (.iload 19, 2) := by decide +kernel
theorem dX2_add_191 : decode cX2_add 191 = .ok (.iadd, 1) := by decide +kernel
theorem dX2_add_192 : decode cX2_add 192 = .ok (.aaload, 1) := by decide +kernel
theorem dX2_add_193 : decode cX2_add 193 = .ok (.aload_n 0, 1) := by decide +kernel
theorem dX2_add_194 : decode cX2_add 194 = .ok (.getfield 16, 3) := by decide +kernel
theorem dX2_add_197 : decode cX2_add 197 = .ok (.lload 10, 2) := by decide +kernel
theorem dX2_add_199 : decode cX2_add 199 = .ok (.lload 12, 2) := by decide +kernel
theorem dX2_add_201 : decode cX2_add 201 = .ok (.lcmp, 1) := by decide +kernel
theorem dX2_add_202 : decode cX2_add 202 = .ok (.ifCond .ne 8, 3) := by decide +kernel
theorem dX2_add_205 : decode cX2_add 205 = .ok (.iload 23, 2) := by decide +kernel
theorem dX2_add_207 : decode cX2_add 207 = .ok (.goto 5, 3) := by decide +kernel
theorem dX2_add_210 : decode cX2_add 210 = .ok (.iload 22, 2) := by decide +kernel
theorem dX2_add_212 : decode cX2_add 212 = .ok (.iastore, 1) := by decide +kernel
theorem dX2_add_213 : decode cX2_add 213 = .ok (.aload_n 0, 1) := by decide +kernel
theorem dX2_add_214 : decode cX2_add 214 = .ok (.getfield 13, 3) := by decide +kernel
theorem dX2_add_217 : decode cX2_add 217 = .ok (.bipush 6, 2) := by decide +kernel
theorem dX2_add_219 : decode cX2_add 219 = .ok (.iload 19, 2) := by decide +kernel
theorem dX2_add_221 : decode cX2_add 221 = .ok (.iadd, 1) := by decide +kernel
theorem dX2_add_222 : decode cX2_add 222 = .ok (.aaload, 1) := by decide +kernel
theorem dX2_add_223 : decode cX2_add 223 = .ok (.aload_n 0, 1) := by decide +kernel
theorem dX2_add_224 : decode cX2_add 224 = .ok (.getfield 16, 3) := by decide +kernel
theorem dX2_add_227 : decode cX2_add 227 = .ok (.lload 10, 2) := by decide +kernel
theorem dX2_add_229 : decode cX2_add 229 = .ok (.lload 12, 2) := by decide +kernel
theorem dX2_add_231 : decode cX2_add 231 = .ok (.lcmp, 1) := by decide +kernel
theorem dX2_add_232 : decode cX2_add 232 = .ok (.ifCond .ne 8, 3) := by decide +kernel
theorem dX2_add_235 : decode cX2_add 235 = .ok (.iload 22, 2) := by decide +kernel
theorem dX2_add_237 : decode cX2_add 237 = .ok (.goto 5, 3) := by decide +kernel
theorem dX2_add_240 : decode cX2_add 240 = .ok (.iload 23, 2) := by decide +kernel
theorem dX2_add_242 : decode cX2_add 242 = .ok (.iastore, 1) := by decide +kernel
theorem dX2_add_243 : decode cX2_add 243 = .ok (.iinc 19 1, 3) := by decide +kernel
theorem dX2_add_246 : decode cX2_add 246 = .ok (.goto (-124), 3) := by decide +kernel
theorem dX2_add_249 : decode cX2_add 249 = .ok (.aload_n 0, 1) := by decide +kernel
theorem dX2_add_250 : decode cX2_add 250 = .ok (.dup, 1) := by decide +kernel
theorem dX2_add_251 : decode cX2_add 251 = .ok (.getfield 16, 3) := by decide +kernel
theorem dX2_add_254 : decode cX2_add 254 = .ok (.iconst 1, 1) := by decide +kernel
theorem dX2_add_255 : decode cX2_add 255 = .ok (.iadd, 1) := by decide +kernel
theorem dX2_add_256 : decode cX2_add 256 = .ok (.putfield 16, 3) := by decide +kernel
theorem dX2_add_259 : decode cX2_add 259 = .ok (.return_, 1) := by decide +kernel
theorem dX2_isInside_0 : decode cX2_isInside 0 = .ok (.iload_n 0, 1) := by decide +kernel
theorem dX2_isInside_1 : decode cX2_isInside 1 = .ok (.tableswitch 69 0 2 #[27, 41, 55], 27) := by decide +kernel
theorem dX2_isInside_28 : decode cX2_isInside 28 = .ok (.iload_n 1, 1) := by decide +kernel
theorem dX2_isInside_29 : decode cX2_isInside 29 = .ok (.ifCond .ne 7, 3) := by decide +kernel
theorem dX2_isInside_32 : decode cX2_isInside 32 = .ok (.iload_n 2, 1) := by decide +kernel
theorem dX2_isInside_33 : decode cX2_isInside 33 = .ok (.ifCond .eq 7, 3) := by decide +kernel
theorem dX2_isInside_36 : decode cX2_isInside 36 = .ok (.iconst 1, 1) := by decide +kernel
theorem dX2_isInside_37 : decode cX2_isInside 37 = .ok (.goto 4, 3) := by decide +kernel
theorem dX2_isInside_40 : decode cX2_isInside 40 = .ok (.iconst 0, 1) := by decide +kernel
theorem dX2_isInside_41 : decode cX2_isInside 41 = .ok (.ireturn, 1) := by decide +kernel
theorem dX2_isInside_42 : decode cX2_isInside 42 = .ok (.iload_n 1, 1) := by decide +kernel
theorem dX2_isInside_43 : decode cX2_isInside 43 = .ok (.ifCond .eq 11, 3) := by decide +kernel
theorem dX2_isInside_46 : decode cX2_isInside 46 = .ok (.iload_n 2, 1) := by decide +kernel
theorem dX2_isInside_47 : decode cX2_isInside 47 = .ok (.ifCond .eq 7, 3) := by decide +kernel
theorem dX2_isInside_50 : decode cX2_isInside 50 = .ok (.iconst 1, 1) := by decide +kernel
theorem dX2_isInside_51 : decode cX2_isInside 51 = .ok (.goto 4, 3) := by decide +kernel
theorem dX2_isInside_54 : decode cX2_isInside 54 = .ok (.iconst 0, 1) := by decide +kernel
theorem dX2_isInside_55 : decode cX2_isInside 55 = .ok (.ireturn, 1) := by decide +kernel
theorem dX2_isInside_56 : decode cX2_isInside 56 = .ok (.iload_n 1, 1) := by decide +kernel
theorem dX2_isInside_57 : decode cX2_isInside 57 = .ok (.ifCond .eq 11, 3) := by decide +kernel
theorem dX2_isInside_60 : decode cX2_isInside 60 = .ok (.iload_n 2, 1) := by decide +kernel
theorem dX2_isInside_61 : decode cX2_isInside 61 = .ok (.ifCond .ne 7, 3) := by decide +kernel
theorem dX2_isInside_64 : decode cX2_isInside 64 = .ok (.iconst 1, 1) := by decide +kernel
theorem dX2_isInside_65 : decode cX2_isInside 65 = .ok (.goto 4, 3) := by decide +kernel
theorem dX2_isInside_68 : decode cX2_isInside 68 = .ok (.iconst 0, 1) := by decide +kernel
theorem dX2_isInside_69 : decode cX2_isInside 69 = .ok (.ireturn, 1) := by decide +kernel
theorem dX2_isInside_70 : decode cX2_isInside 70 = .ok (.iload_n 1, 1) := by decide +kernel
theorem dX2_isInside_71 : decode cX2_isInside 71 = .ok (.iload_n 2, 1) := by decide +kernel
theorem dX2_isInside_72 : decode cX2_isInside 72 = .ok (.if_icmp .eq 7, 3) := by decide +kernel
theorem dX2_isInside_75 : decode cX2_isInside 75 = .ok (.iconst 1, 1) := by decide +kernel
theorem dX2_isInside_76 : decode cX2_isInside 76 = .ok (.goto 4, 3) := by decide +kernel
theorem dX2_isInside_79 : decode cX2_isInside 79 = .ok (.iconst 0, 1) := by decide +kernel
theorem dX2_isInside_80 : decode cX2_isInside 80 = .ok (.ireturn, 1) := by decide +kernel
theorem dX3_init_0 : decode cX3_init 0 = .ok (.aload_n 0, 1) := by decide +kernel
theorem dX3_init_1 : decode cX3_init 1 = .ok (.invokespecial 3, 3) := by decide +kernel
theorem dX3_init_4 : decode cX3_init 4 = .ok (.aload_n 0, 1) := by decide +kernel
theorem dX3_init_5 : decode cX3_init 5 = .ok (.bipush 78, 2) := by decide +kernel
theorem dX3_init_7 : decode cX3_init 7 = .ok (.newarray .int, 2) := by decide +kernel
theorem dX3_init_9 : decode cX3_init 9 = .ok (.putfield 9, 3) := by decide +kernel
theorem dX3_init_12 : decode cX3_init 12 = .ok (.aload_n 0, 1) := by decide +kernel
theorem dX3_init_13 : decode cX3_init 13 = .ok (.bipush 78, 2) := by decide +kernel
theorem dX3_init_15 : decode cX3_init 15 = .ok (.newarray .int, 2) := by decide +kernel
theorem dX3_init_17 : decode cX3_init 17 = .ok (.putfield 15, 3) := by decide +kernel
theorem dX3_init_20 : decode cX3_init 20 = .ok (.aload_n 0, 1) := by decide +kernel
theorem dX3_init_21 : decode cX3_init 21 = .ok (.bipush 78, 2) := by decide +kernel
theorem dX3_init_23 : decode cX3_init 23 = .ok (.newarray .int, 2) := by decide +kernel
theorem dX3_init_25 : decode cX3_init 25 = .ok (.putfield 18, 3) := by decide +kernel
theorem dX3_init_28 : decode cX3_init 28 = .ok (.aload_n 0, 1) := by decide +kernel
theorem dX3_init_29 : decode cX3_init 29 = .ok (.bipush 78, 2) := by decide +kernel
theorem dX3_init_31 : decode cX3_init 31 = .ok (.newarray .int, 2) := by decide +kernel
theorem dX3_init_33 : decode cX3_init 33 = .ok (.putfield 21, 3) := by decide +kernel
theorem dX3_init_36 : decode cX3_init 36 = .ok (.aload_n 0, 1) := by decide +kernel
theorem dX3_init_37 : decode cX3_init 37 = .ok (.iconst 0, 1) := by decide +kernel
theorem dX3_init_38 : decode cX3_init 38 = .ok (.putfield 24, 3) := by decide +kernel
theorem dX3_init_41 : decode cX3_init 41 = .ok (.return_, 1) := by decide +kernel
set_option maxRecDepth 20000 in
theorem ggX3_gather_X3_insert : GoodIn wsX3_gather wsX3_insert := goodIn_r _ [10, 1, 3, 4, 5, 11, 12, 13, 9, 14, 15, 16, 17, 18, 67, 68, 69, 70, 71] (by decide +kernel) (by decide +kernel)
set_option maxRecDepth 20000 in
theorem gX3_gather_X3_insert : GoodIn wsX3_gather (wsV RX3 37 RX3 yX3_insert wsX3_insert) := goodIn_app (goodIn_of _ (by decide +kernel)) ggX3_gather_X3_insert
set_option maxRecDepth 20000 in
theorem ggX3_gather_X3_addMeeting : GoodIn wsX3_gather wsX3_addMeeting := goodIn_r _ [22, 23, 24, 25, 26, 27, 28, 29, 30, 31, 32, 33, 34, 35, 36, 37, 38, 39, 40, 41, 9, 42, 43, 44, 45, 6, 7, 8, 10, 1, 3, 4, 5, 11, 12, 13, 14, 15, 16, 17, 18, 72, 73, 74, 75, 76, 77, 67, 68, 69, 70, 71] (by decide +kernel) (by decide +kernel)
set_option maxRecDepth 20000 in
theorem gX3_gather_X3_addMeeting : GoodIn wsX3_gather (wsV RX3 47 RX3 yX3_addMeeting wsX3_addMeeting) := goodIn_app (goodIn_of _ (by decide +kernel)) ggX3_gather_X3_addMeeting
set_option maxRecDepth 20000 in
theorem ggX3_gather_X0_through : GoodIn wsX3_gather wsX0_through := goodIn_r _ [49, 50, 51, 52, 53, 30, 54, 39, 38, 55, 56, 25, 57, 58, 59, 60, 33, 32, 61, 62, 63, 64, 65, 28, 29, 31, 66, 35, 36, 37, 72, 73, 74, 75, 76, 77] (by decide +kernel) (by decide +kernel)
set_option maxRecDepth 20000 in
theorem gX3_gather_X0_through : GoodIn wsX3_gather (wsV RX3 51 RX0 yX0_through wsX0_through) := goodIn_app (goodIn_of _ (by decide +kernel)) ggX3_gather_X0_through
theorem dX3_gather_0 : decode cX3_gather 0 = .ok (.aload_n 0, 1) := by decide +kernel
theorem dX3_gather_1 : decode cX3_gather 1 = .ok (.iconst 0, 1) := by decide +kernel
theorem dX3_gather_2 : decode cX3_gather 2 = .ok (.putfield 24, 3) := by decide +kernel
theorem dX3_gather_5 : decode cX3_gather 5 = .ok (.iconst 0, 1) := by decide +kernel
theorem dX3_gather_6 : decode cX3_gather 6 = .ok (.istore_n 2, 1) := by decide +kernel
theorem dX3_gather_7 : decode cX3_gather 7 = .ok (.iload_n 2, 1) := by decide +kernel
theorem dX3_gather_8 : decode cX3_gather 8 = .ok (.aload_n 1, 1) := by decide +kernel
theorem dX3_gather_9 : decode cX3_gather 9 = .ok (.getfield 28, 3) := by decide +kernel
theorem dX3_gather_12 : decode cX3_gather 12 = .ok (.if_icmp .ge 63, 3) := by decide +kernel
theorem dX3_gather_15 : decode cX3_gather 15 = .ok (.aload_n 0, 1) := by decide +kernel
theorem dX3_gather_16 : decode cX3_gather 16 = .ok (.aload_n 1, 1) := by decide +kernel
theorem dX3_gather_17 : decode cX3_gather 17 = .ok (.getfield 31, 3) := by decide +kernel
theorem dX3_gather_20 : decode cX3_gather 20 = .ok (.iload_n 2, 1) := by decide +kernel
theorem dX3_gather_21 : decode cX3_gather 21 = .ok (.iaload, 1) := by decide +kernel
theorem dX3_gather_22 : decode cX3_gather 22 = .ok (.aload_n 1, 1) := by decide +kernel
theorem dX3_gather_23 : decode cX3_gather 23 = .ok (.getfield 34, 3) := by decide +kernel
theorem dX3_gather_26 : decode cX3_gather 26 = .ok (.iload_n 2, 1) := by decide +kernel
theorem dX3_gather_27 : decode cX3_gather 27 = .ok (.iaload, 1) := by decide +kernel
theorem dX3_gather_28 : decode cX3_gather 28 = .ok (.iconst 1, 1) := by decide +kernel
theorem dX3_gather_29 : decode cX3_gather 29 = .ok (.invokevirtual 37, 3) := by decide +kernel
theorem dX3_gather_32 : decode cX3_gather 32 = .ok (.aload_n 0, 1) := by decide +kernel
theorem dX3_gather_33 : decode cX3_gather 33 = .ok (.aload_n 1, 1) := by decide +kernel
theorem dX3_gather_34 : decode cX3_gather 34 = .ok (.getfield 41, 3) := by decide +kernel
theorem dX3_gather_37 : decode cX3_gather 37 = .ok (.iload_n 2, 1) := by decide +kernel
theorem dX3_gather_38 : decode cX3_gather 38 = .ok (.iaload, 1) := by decide +kernel
theorem dX3_gather_39 : decode cX3_gather 39 = .ok (.aload_n 1, 1) := by decide +kernel
theorem dX3_gather_40 : decode cX3_gather 40 = .ok (.getfield 44, 3) := by decide +kernel
theorem dX3_gather_43 : decode cX3_gather 43 = .ok (.iload_n 2, 1) := by decide +kernel
theorem dX3_gather_44 : decode cX3_gather 44 = .ok (.iaload, 1) := by decide +kernel
theorem dX3_gather_45 : decode cX3_gather 45 = .ok (.iconst 1, 1) := by decide +kernel
theorem dX3_gather_46 : decode cX3_gather 46 = .ok (.invokevirtual 37, 3) := by decide +kernel
theorem dX3_gather_49 : decode cX3_gather 49 = .ok (.iconst 0, 1) := by decide +kernel
theorem dX3_gather_50 : decode cX3_gather 50 = .ok (.istore_n 3, 1) := by decide +kernel
theorem dX3_gather_51 : decode cX3_gather 51 = .ok (.iload_n 3, 1) := by decide +kernel
theorem dX3_gather_52 : decode cX3_gather 52 = .ok (.iload_n 2, 1) := by decide +kernel
theorem dX3_gather_53 : decode cX3_gather 53 = .ok (.if_icmp .ge 16, 3) := by decide +kernel
theorem dX3_gather_56 : decode cX3_gather 56 = .ok (.aload_n 0, 1) := by decide +kernel
theorem dX3_gather_57 : decode cX3_gather 57 = .ok (.aload_n 1, 1) := by decide +kernel
theorem dX3_gather_58 : decode cX3_gather 58 = .ok (.iload_n 2, 1) := by decide +kernel
theorem dX3_gather_59 : decode cX3_gather 59 = .ok (.iload_n 3, 1) := by decide +kernel
theorem dX3_gather_60 : decode cX3_gather 60 = .ok (.invokevirtual 47, 3) := by decide +kernel
theorem dX3_gather_63 : decode cX3_gather 63 = .ok (.iinc 3 1, 3) := by decide +kernel
theorem dX3_gather_66 : decode cX3_gather 66 = .ok (.goto (-15), 3) := by decide +kernel
theorem dX3_gather_69 : decode cX3_gather 69 = .ok (.iinc 2 1, 3) := by decide +kernel
theorem dX3_gather_72 : decode cX3_gather 72 = .ok (.goto (-65), 3) := by decide +kernel
theorem dX3_gather_75 : decode cX3_gather 75 = .ok (.iconst 0, 1) := by decide +kernel
theorem dX3_gather_76 : decode cX3_gather 76 = .ok (.istore_n 2, 1) := by decide +kernel
theorem dX3_gather_77 : decode cX3_gather 77 = .ok (.iload_n 2, 1) := by decide +kernel
theorem dX3_gather_78 : decode cX3_gather 78 = .ok (.aload_n 0, 1) := by decide +kernel
theorem dX3_gather_79 : decode cX3_gather 79 = .ok (.getfield 24, 3) := by decide +kernel
theorem dX3_gather_82 : decode cX3_gather 82 = .ok (.if_icmp .ge 40, 3) := by decide +kernel
theorem dX3_gather_85 : decode cX3_gather 85 = .ok (.aload_n 0, 1) := by decide +kernel
theorem dX3_gather_86 : decode cX3_gather 86 = .ok (.getfield 21, 3) := by decide +kernel
theorem dX3_gather_89 : decode cX3_gather 89 = .ok (.iload_n 2, 1) := by decide +kernel
theorem dX3_gather_90 : decode cX3_gather 90 = .ok (.aload_n 1, 1) := by decide +kernel
theorem dX3_gather_91 : decode cX3_gather 91 = .ok (.aload_n 0, 1) := by decide +kernel
theorem dX3_gather_92 : decode cX3_gather 92 = .ok (.getfield 9, 3) := by decide +kernel
theorem dX3_gather_95 : decode cX3_gather 95 = .ok (.iload_n 2, 1) := by decide +kernel
theorem dX3_gather_96 : decode cX3_gather 96 = .ok (.iaload, 1) := by decide +kernel
theorem dX3_gather_97 : decode cX3_gather 97 = .ok (.i2l, 1) := by decide +kernel
theorem dX3_gather_98 : decode cX3_gather 98 = .ok (.aload_n 0, 1) := by decide +kernel
theorem dX3_gather_99 : decode cX3_gather 99 = .ok (.getfield 15, 3) := by decide +kernel
theorem dX3_gather_102 : decode cX3_gather 102 = .ok (.iload_n 2, 1) := by decide +kernel
theorem dX3_gather_103 : decode cX3_gather 103 = .ok (.iaload, 1) := by decide +kernel
theorem dX3_gather_104 : decode cX3_gather 104 = .ok (.i2l, 1) := by decide +kernel
theorem dX3_gather_105 : decode cX3_gather 105 = .ok (.aload_n 0, 1) := by decide +kernel
theorem dX3_gather_106 : decode cX3_gather 106 = .ok (.getfield 18, 3) := by decide +kernel
theorem dX3_gather_109 : decode cX3_gather 109 = .ok (.iload_n 2, 1) := by decide +kernel
theorem dX3_gather_110 : decode cX3_gather 110 = .ok (.iaload, 1) := by decide +kernel
theorem dX3_gather_111 : decode cX3_gather 111 = .ok (.i2l, 1) := by decide +kernel
theorem dX3_gather_112 : decode cX3_gather 112 = .ok (.invokevirtual 51, 3) := by decide +kernel
theorem dX3_gather_115 : decode cX3_gather 115 = .ok (.iastore, 1) := by decide +kernel
theorem dX3_gather_116 : decode cX3_gather 116 = .ok (.iinc 2 1, 3) := by decide +kernel
theorem dX3_gather_119 : decode cX3_gather 119 = .ok (.goto (-42), 3) := by decide +kernel
theorem dX3_gather_122 : decode cX3_gather 122 = .ok (.return_, 1) := by decide +kernel
theorem dX3_firstOnBoth_0 : decode cX3_firstOnBoth 0 = .ok (.iconst 1, 1) := by decide +kernel
theorem dX3_firstOnBoth_1 : decode cX3_firstOnBoth 1 = .ok (.iload_n 1, 1) := by decide +kernel
theorem dX3_firstOnBoth_2 : decode cX3_firstOnBoth 2 = .ok (.ishl, 1) := by decide +kernel
theorem dX3_firstOnBoth_3 : decode cX3_firstOnBoth 3 = .ok (.iconst 1, 1) := by decide +kernel
theorem dX3_firstOnBoth_4 : decode cX3_firstOnBoth 4 = .ok (.iload_n 2, 1) := by decide +kernel
theorem dX3_firstOnBoth_5 : decode cX3_firstOnBoth 5 = .ok (.ishl, 1) := by decide +kernel
theorem dX3_firstOnBoth_6 : decode cX3_firstOnBoth 6 = .ok (.ior, 1) := by decide +kernel
theorem dX3_firstOnBoth_7 : decode cX3_firstOnBoth 7 = .ok (.istore_n 3, 1) := by decide +kernel
theorem dX3_firstOnBoth_8 : decode cX3_firstOnBoth 8 = .ok (.iconst 0, 1) := by decide +kernel
theorem dX3_firstOnBoth_9 : decode cX3_firstOnBoth 9 = .ok (.istore 4, 2) := by decide +kernel
theorem dX3_firstOnBoth_11 : decode cX3_firstOnBoth 11 = .ok (.iload 4, 2) := by decide +kernel
theorem dX3_firstOnBoth_13 : decode cX3_firstOnBoth 13 = .ok (.aload_n 0, 1) := by decide +kernel
theorem dX3_firstOnBoth_14 : decode cX3_firstOnBoth 14 = .ok (.getfield 24, 3) := by decide +kernel
theorem dX3_firstOnBoth_17 : decode cX3_firstOnBoth 17 = .ok (.if_icmp .ge 25, 3) := by decide +kernel
theorem dX3_firstOnBoth_20 : decode cX3_firstOnBoth 20 = .ok (.aload_n 0, 1) := by decide +kernel
theorem dX3_firstOnBoth_21 : decode cX3_firstOnBoth 21 = .ok (.getfield 21, 3) := by decide +kernel
theorem dX3_firstOnBoth_24 : decode cX3_firstOnBoth 24 = .ok (.iload 4, 2) := by decide +kernel
theorem dX3_firstOnBoth_26 : decode cX3_firstOnBoth 26 = .ok (.iaload, 1) := by decide +kernel
theorem dX3_firstOnBoth_27 : decode cX3_firstOnBoth 27 = .ok (.iload_n 3, 1) := by decide +kernel
theorem dX3_firstOnBoth_28 : decode cX3_firstOnBoth 28 = .ok (.iand, 1) := by decide +kernel
theorem dX3_firstOnBoth_29 : decode cX3_firstOnBoth 29 = .ok (.iload_n 3, 1) := by decide +kernel
theorem dX3_firstOnBoth_30 : decode cX3_firstOnBoth 30 = .ok (.if_icmp .ne 6, 3) := by decide +kernel
theorem dX3_firstOnBoth_33 : decode cX3_firstOnBoth 33 = .ok (.iload 4, 2) := by decide +kernel
theorem dX3_firstOnBoth_35 : decode cX3_firstOnBoth 35 = .ok (.ireturn, 1) := by decide +kernel
theorem dX3_firstOnBoth_36 : decode cX3_firstOnBoth 36 = .ok (.iinc 4 1, 3) := by decide +kernel
theorem dX3_firstOnBoth_39 : decode cX3_firstOnBoth 39 = .ok (.goto (-28), 3) := by decide +kernel
theorem dX3_firstOnBoth_42 : decode cX3_firstOnBoth 42 = .ok (.iconst (-1), 1) := by decide +kernel
theorem dX3_firstOnBoth_43 : decode cX3_firstOnBoth 43 = .ok (.ireturn, 1) := by decide +kernel
theorem dX3_lastOnBoth_0 : decode cX3_lastOnBoth 0 = .ok (.iconst 1, 1) := by decide +kernel
theorem dX3_lastOnBoth_1 : decode cX3_lastOnBoth 1 = .ok (.iload_n 1, 1) := by decide +kernel
theorem dX3_lastOnBoth_2 : decode cX3_lastOnBoth 2 = .ok (.ishl, 1) := by decide +kernel
theorem dX3_lastOnBoth_3 : decode cX3_lastOnBoth 3 = .ok (.iconst 1, 1) := by decide +kernel
theorem dX3_lastOnBoth_4 : decode cX3_lastOnBoth 4 = .ok (.iload_n 2, 1) := by decide +kernel
theorem dX3_lastOnBoth_5 : decode cX3_lastOnBoth 5 = .ok (.ishl, 1) := by decide +kernel
theorem dX3_lastOnBoth_6 : decode cX3_lastOnBoth 6 = .ok (.ior, 1) := by decide +kernel
theorem dX3_lastOnBoth_7 : decode cX3_lastOnBoth 7 = .ok (.istore_n 3, 1) := by decide +kernel
theorem dX3_lastOnBoth_8 : decode cX3_lastOnBoth 8 = .ok (.aload_n 0, 1) := by decide +kernel
theorem dX3_lastOnBoth_9 : decode cX3_lastOnBoth 9 = .ok (.getfield 24, 3) := by decide +kernel
theorem dX3_lastOnBoth_12 : decode cX3_lastOnBoth 12 = .ok (.iconst 1, 1) := by decide +kernel
theorem dX3_lastOnBoth_13 : decode cX3_lastOnBoth 13 = .ok (.isub, 1) := by decide +kernel
theorem dX3_lastOnBoth_14 : decode cX3_lastOnBoth 14 = .ok (.istore 4, 2) := by decide +kernel
theorem dX3_lastOnBoth_16 : decode cX3_lastOnBoth 16 = .ok (.iload 4, 2) := by decide +kernel
theorem dX3_lastOnBoth_18 : decode cX3_lastOnBoth 18 = .ok (.ifCond .lt 25, 3) := by decide +kernel
theorem dX3_lastOnBoth_21 : decode cX3_lastOnBoth 21 = .ok (.aload_n 0, 1) := by decide +kernel
theorem dX3_lastOnBoth_22 : decode cX3_lastOnBoth 22 = .ok (.getfield 21, 3) := by decide +kernel
theorem dX3_lastOnBoth_25 : decode cX3_lastOnBoth 25 = .ok (.iload 4, 2) := by decide +kernel
theorem dX3_lastOnBoth_27 : decode cX3_lastOnBoth 27 = .ok (.iaload, 1) := by decide +kernel
theorem dX3_lastOnBoth_28 : decode cX3_lastOnBoth 28 = .ok (.iload_n 3, 1) := by decide +kernel
theorem dX3_lastOnBoth_29 : decode cX3_lastOnBoth 29 = .ok (.iand, 1) := by decide +kernel
theorem dX3_lastOnBoth_30 : decode cX3_lastOnBoth 30 = .ok (.iload_n 3, 1) := by decide +kernel
theorem dX3_lastOnBoth_31 : decode cX3_lastOnBoth 31 = .ok (.if_icmp .ne 6, 3) := by decide +kernel
theorem dX3_lastOnBoth_34 : decode cX3_lastOnBoth 34 = .ok (.iload 4, 2) := by decide +kernel
theorem dX3_lastOnBoth_36 : decode cX3_lastOnBoth 36 = .ok (.ireturn, 1) := by decide +kernel
theorem dX3_lastOnBoth_37 : decode cX3_lastOnBoth 37 = .ok (.iinc 4 (-1), 3) := by decide +kernel
theorem dX3_lastOnBoth_40 : decode cX3_lastOnBoth 40 = .ok (.goto (-24), 3) := by decide +kernel
theorem dX3_lastOnBoth_43 : decode cX3_lastOnBoth 43 = .ok (.iconst (-1), 1) := by decide +kernel
theorem dX3_lastOnBoth_44 : decode cX3_lastOnBoth 44 = .ok (.ireturn, 1) := by decide +kernel
theorem dX3_doubleArea_0 : decode cX3_doubleArea 0 = .ok (.aload_n 0, 1) := by decide +kernel
theorem dX3_doubleArea_1 : decode cX3_doubleArea 1 = .ok (.getfield 9, 3) := by decide +kernel
theorem dX3_doubleArea_4 : decode cX3_doubleArea 4 = .ok (.iload_n 1, 1) := by decide +kernel
theorem dX3_doubleArea_5 : decode cX3_doubleArea 5 = .ok (.iaload, 1) := by decide +kernel
theorem dX3_doubleArea_6 : decode cX3_doubleArea 6 = .ok (.i2l, 1) := by decide +kernel
theorem dX3_doubleArea_7 : decode cX3_doubleArea 7 = .ok (.aload_n 0, 1) := by decide +kernel
theorem dX3_doubleArea_8 : decode cX3_doubleArea 8 = .ok (.getfield 15, 3) := by decide +kernel
theorem dX3_doubleArea_11 : decode cX3_doubleArea 11 = .ok (.iload_n 2, 1) := by decide +kernel
theorem dX3_doubleArea_12 : decode cX3_doubleArea 12 = .ok (.iaload, 1) := by decide +kernel
theorem dX3_doubleArea_13 : decode cX3_doubleArea 13 = .ok (.i2l, 1) := by decide +kernel
theorem dX3_doubleArea_14 : decode cX3_doubleArea 14 = .ok (.lmul, 1) := by decide +kernel
theorem dX3_doubleArea_15 : decode cX3_doubleArea 15 = .ok (.aload_n 0, 1) := by decide +kernel
theorem dX3_doubleArea_16 : decode cX3_doubleArea 16 = .ok (.getfield 9, 3) := by decide +kernel
theorem dX3_doubleArea_19 : decode cX3_doubleArea 19 = .ok (.iload_n 2, 1) := by decide +kernel
theorem dX3_doubleArea_20 : decode cX3_doubleArea 20 = .ok (.iaload, 1) := by decide +kernel
theorem dX3_doubleArea_21 : decode cX3_doubleArea 21 = .ok (.i2l, 1) := by decide +kernel
theorem dX3_doubleArea_22 : decode cX3_doubleArea 22 = .ok (.aload_n 0, 1) := by decide +kernel
theorem dX3_doubleArea_23 : decode cX3_doubleArea 23 = .ok (.getfield 15, 3) := by decide +kernel
theorem dX3_doubleArea_26 : decode cX3_doubleArea 26 = .ok (.iload_n 1, 1) := by decide +kernel
theorem dX3_doubleArea_27 : decode cX3_doubleArea 27 = .ok (.iaload, 1) := by decide +kernel
theorem dX3_doubleArea_28 : decode cX3_doubleArea 28 = .ok (.i2l, 1) := by decide +kernel
theorem dX3_doubleArea_29 : decode cX3_doubleArea 29 = .ok (.lmul, 1) := by decide +kernel
theorem dX3_doubleArea_30 : decode cX3_doubleArea 30 = .ok (.lsub, 1) := by decide +kernel
theorem dX3_doubleArea_31 : decode cX3_doubleArea 31 = .ok (.lstore_n 3, 1) := by decide +kernel
theorem dX3_doubleArea_32 : decode cX3_doubleArea 32 = .ok (.aload_n 0, 1) := by decide +kernel
theorem dX3_doubleArea_33 : decode cX3_doubleArea 33 = .ok (.getfield 18, 3) := by decide +kernel
theorem dX3_doubleArea_36 : decode cX3_doubleArea 36 = .ok (.iload_n 1, 1) := by decide +kernel
theorem dX3_doubleArea_37 : decode cX3_doubleArea 37 = .ok (.iaload, 1) := by decide +kernel
theorem dX3_doubleArea_38 : decode cX3_doubleArea 38 = .ok (.i2l, 1) := by decide +kernel
theorem dX3_doubleArea_39 : decode cX3_doubleArea 39 = .ok (.aload_n 0, 1) := by decide +kernel
theorem dX3_doubleArea_40 : decode cX3_doubleArea 40 = .ok (.getfield 18, 3) := by decide +kernel
theorem dX3_doubleArea_43 : decode cX3_doubleArea 43 = .ok (.iload_n 2, 1) := by decide +kernel
theorem dX3_doubleArea_44 : decode cX3_doubleArea 44 = .ok (.iaload, 1) := by decide +kernel
theorem dX3_doubleArea_45 : decode cX3_doubleArea 45 = .ok (.i2l, 1) := by decide +kernel
theorem dX3_doubleArea_46 : decode cX3_doubleArea 46 = .ok (.lmul, 1) := by decide +kernel
theorem dX3_doubleArea_47 : decode cX3_doubleArea 47 = .ok (.lstore 5, 2) := by decide +kernel
theorem dX3_doubleArea_49 : decode cX3_doubleArea 49 = .ok (.lload 5, 2) := by decide +kernel
theorem dX3_doubleArea_51 : decode cX3_doubleArea 51 = .ok (.lconst 0, 1) := by decide +kernel
theorem dX3_doubleArea_52 : decode cX3_doubleArea 52 = .ok (.lcmp, 1) := by decide +kernel
theorem dX3_doubleArea_53 : decode cX3_doubleArea 53 = .ok (.ifCond .le 12, 3) := by decide +kernel
theorem dX3_doubleArea_56 : decode cX3_doubleArea 56 = .ok (.lload_n 3, 1) := by decide +kernel
theorem dX3_doubleArea_57 : decode cX3_doubleArea 57 = .ok (.l2d, 1) := by decide +kernel
theorem dX3_doubleArea_58 : decode cX3_doubleArea 58 = .ok (.lload 5, 2) := by decide +kernel
theorem dX3_doubleArea_60 : decode cX3_doubleArea 60 = .ok (.l2d, 1) := by decide +kernel
theorem dX3_doubleArea_61 : decode cX3_doubleArea 61 = .ok (.ddiv, 1) := by decide +kernel
theorem dX3_doubleArea_62 : decode cX3_doubleArea 62 = .ok (.goto 4, 3) := by decide +kernel
theorem dX3_doubleArea_65 : decode cX3_doubleArea 65 = .ok (.dconst 0, 1) := by decide +kernel
theorem dX3_doubleArea_66 : decode cX3_doubleArea 66 = .ok (.dreturn, 1) := by decide +kernel
set_option maxRecDepth 20000 in
theorem ggX3_addMeeting_X0_spanX : GoodIn wsX3_addMeeting wsX0_spanX := goodIn_r _ [9, 10, 11, 41, 42, 43, 44, 45, 46] (by decide +kernel) (by decide +kernel)
set_option maxRecDepth 20000 in
theorem gX3_addMeeting_X0_spanX : GoodIn wsX3_addMeeting (wsV RX3 55 RX0 yX0_spanX wsX0_spanX) := goodIn_app (goodIn_of _ (by decide +kernel)) ggX3_addMeeting_X0_spanX
set_option maxRecDepth 20000 in
theorem ggX3_addMeeting_X0_spanY : GoodIn wsX3_addMeeting wsX0_spanY := goodIn_r _ [15, 16, 17, 41, 42, 43, 44, 45, 46] (by decide +kernel) (by decide +kernel)
set_option maxRecDepth 20000 in
theorem gX3_addMeeting_X0_spanY : GoodIn wsX3_addMeeting (wsV RX3 59 RX0 yX0_spanY wsX0_spanY) := goodIn_app (goodIn_of _ (by decide +kernel)) ggX3_addMeeting_X0_spanY
set_option maxRecDepth 20000 in
theorem ggX3_addMeeting_X3_cross : GoodIn wsX3_addMeeting wsX3_cross := goodIn_r _ [21] (by decide +kernel) (by decide +kernel)
set_option maxRecDepth 20000 in
theorem gX3_addMeeting_X3_cross : GoodIn wsX3_addMeeting (va_wsS RX3 62 yX3_cross wsX3_cross) := goodIn_app (goodIn_of _ (by decide +kernel)) ggX3_addMeeting_X3_cross
set_option maxRecDepth 20000 in
theorem ggX3_addMeeting_X3_greatestDivisor : GoodIn wsX3_addMeeting wsX3_greatestDivisor := goodIn_r _ [24] (by decide +kernel) (by decide +kernel)
set_option maxRecDepth 20000 in
theorem gX3_addMeeting_X3_greatestDivisor : GoodIn wsX3_addMeeting (va_wsS RX3 71 yX3_greatestDivisor wsX3_greatestDivisor) := goodIn_app (goodIn_of _ (by decide +kernel)) ggX3_addMeeting_X3_greatestDivisor
set_option maxRecDepth 20000 in
theorem ggX3_addMeeting_X3_insert : GoodIn wsX3_addMeeting wsX3_insert := goodIn_r _ [28, 29, 30, 31, 32, 33, 34, 35, 20, 36, 37, 38, 39, 40, 47, 48, 49, 50, 51] (by decide +kernel) (by decide +kernel)
set_option maxRecDepth 20000 in
theorem gX3_addMeeting_X3_insert : GoodIn wsX3_addMeeting (wsV RX3 37 RX3 yX3_insert wsX3_insert) := goodIn_app (goodIn_of _ (by decide +kernel)) ggX3_addMeeting_X3_insert
theorem dX3_addMeeting_0 : decode cX3_addMeeting 0 = .ok (.aload_n 1, 1) := by decide +kernel
theorem dX3_addMeeting_1 : decode cX3_addMeeting 1 = .ok (.iload_n 2, 1) := by decide +kernel
theorem dX3_addMeeting_2 : decode cX3_addMeeting 2 = .ok (.invokevirtual 55, 3) := by decide +kernel
theorem dX3_addMeeting_5 : decode cX3_addMeeting 5 = .ok (.aload_n 1, 1) := by decide +kernel
theorem dX3_addMeeting_6 : decode cX3_addMeeting 6 = .ok (.iload_n 2, 1) := by decide +kernel
theorem dX3_addMeeting_7 : decode cX3_addMeeting 7 = .ok (.invokevirtual 59, 3) := by decide +kernel
theorem dX3_addMeeting_10 : decode cX3_addMeeting 10 = .ok (.aload_n 1, 1) := by decide +kernel
theorem dX3_addMeeting_11 : decode cX3_addMeeting 11 = .ok (.iload_n 3, 1) := by decide +kernel
theorem dX3_addMeeting_12 : decode cX3_addMeeting 12 = .ok (.invokevirtual 55, 3) := by decide +kernel
theorem dX3_addMeeting_15 : decode cX3_addMeeting 15 = .ok (.aload_n 1, 1) := by decide +kernel
theorem dX3_addMeeting_16 : decode cX3_addMeeting 16 = .ok (.iload_n 3, 1) := by decide +kernel
theorem dX3_addMeeting_17 : decode cX3_addMeeting 17 = .ok (.invokevirtual 59, 3) := by decide +kernel
theorem dX3_addMeeting_20 : decode cX3_addMeeting 20 = .ok (.invokestatic 62, 3) := by decide +kernel
theorem dX3_addMeeting_23 : decode cX3_addMeeting 23 = .ok (.istore 4, 2) := by decide +kernel
theorem dX3_addMeeting_25 : decode cX3_addMeeting 25 = .ok (.iload 4, 2) := by decide +kernel
theorem dX3_addMeeting_27 : decode cX3_addMeeting 27 = .ok (.ifCond .ne 4, 3) := by decide +kernel
theorem dX3_addMeeting_30 : decode cX3_addMeeting 30 = .ok (.return_, 1) := by decide +kernel
theorem dX3_addMeeting_31 : decode cX3_addMeeting 31 = .ok (.aload_n 1, 1) := by decide +kernel
theorem dX3_addMeeting_32 : decode cX3_addMeeting 32 = .ok (.getfield 31, 3) := by decide +kernel
theorem dX3_addMeeting_35 : decode cX3_addMeeting 35 = .ok (.iload_n 3, 1) := by decide +kernel
theorem dX3_addMeeting_36 : decode cX3_addMeeting 36 = .ok (.iaload, 1) := by decide +kernel
theorem dX3_addMeeting_37 : decode cX3_addMeeting 37 = .ok (.aload_n 1, 1) := by decide +kernel
theorem dX3_addMeeting_38 : decode cX3_addMeeting 38 = .ok (.getfield 31, 3) := by decide +kernel
theorem dX3_addMeeting_41 : decode cX3_addMeeting 41 = .ok (.iload_n 2, 1) := by decide +kernel
theorem dX3_addMeeting_42 : decode cX3_addMeeting 42 = .ok (.iaload, 1) := by decide +kernel
theorem dX3_addMeeting_43 : decode cX3_addMeeting 43 = .ok (.isub, 1) := by decide +kernel
theorem dX3_addMeeting_44 : decode cX3_addMeeting 44 = .ok (.istore 5, 2) := by decide +kernel
theorem dX3_addMeeting_46 : decode cX3_addMeeting 46 = .ok (.aload_n 1, 1) := by decide +kernel
theorem dX3_addMeeting_47 : decode cX3_addMeeting 47 = .ok (.getfield 34, 3) := by decide +kernel
theorem dX3_addMeeting_50 : decode cX3_addMeeting 50 = .ok (.iload_n 3, 1) := by decide +kernel
theorem dX3_addMeeting_51 : decode cX3_addMeeting 51 = .ok (.iaload, 1) := by decide +kernel
theorem dX3_addMeeting_52 : decode cX3_addMeeting 52 = .ok (.aload_n 1, 1) := by decide +kernel
theorem dX3_addMeeting_53 : decode cX3_addMeeting 53 = .ok (.getfield 34, 3) := by decide +kernel
theorem dX3_addMeeting_56 : decode cX3_addMeeting 56 = .ok (.iload_n 2, 1) := by decide +kernel
theorem dX3_addMeeting_57 : decode cX3_addMeeting 57 = .ok (.iaload, 1) := by decide +kernel
theorem dX3_addMeeting_58 : decode cX3_addMeeting 58 = .ok (.isub, 1) := by decide +kernel
theorem dX3_addMeeting_59 : decode cX3_addMeeting 59 = .ok (.istore 6, 2) := by decide +kernel
theorem dX3_addMeeting_61 : decode cX3_addMeeting 61 = .ok (.iload 4, 2) := by decide +kernel
theorem dX3_addMeeting_63 : decode cX3_addMeeting 63 = .ok (.ifCond .le 7, 3) := by decide +kernel
theorem dX3_addMeeting_66 : decode cX3_addMeeting 66 = .ok (.iconst 1, 1) := by decide +kernel
theorem dX3_addMeeting_67 : decode cX3_addMeeting 67 = .ok (.goto 4, 3) := by decide +kernel
theorem dX3_addMeeting_70 : decode cX3_addMeeting 70 = .ok (.iconst (-1), 1) := by decide +kernel
theorem dX3_addMeeting_71 : decode cX3_addMeeting 71 = .ok (.istore 7, 2) := by decide +kernel
theorem dX3_addMeeting_73 : decode cX3_addMeeting 73 = .ok (.iload 7, 2) := by decide +kernel
theorem dX3_addMeeting_75 : decode cX3_addMeeting 75 = .ok (.iload 4, 2) := by decide +kernel
theorem dX3_addMeeting_77 : decode cX3_addMeeting 77 = .ok (.imul, 1) := by decide +kernel
theorem dX3_addMeeting_78 : decode cX3_addMeeting 78 = .ok (.istore 8, 2) := by decide +kernel
theorem dX3_addMeeting_80 : decode cX3_addMeeting 80 = .ok (.iload 7, 2) := by decide +kernel
theorem dX3_addMeeting_82 : decode cX3_addMeeting 82 = .ok (.iload 5, 2) := by decide +kernel
theorem dX3_addMeeting_84 : decode cX3_addMeeting 84 = .ok (.iload 6, 2) := by decide +kernel
theorem dX3_addMeeting_86 : decode cX3_addMeeting 86 = .ok (.aload_n 1, 1) := by decide +kernel
theorem dX3_addMeeting_87 : decode cX3_addMeeting 87 = .ok (.iload_n 3, 1) := by decide +kernel
theorem dX3_addMeeting_88 : decode cX3_addMeeting 88 = .ok (.invokevirtual 55, 3) := by decide +kernel
theorem dX3_addMeeting_91 : decode cX3_addMeeting 91 = .ok (.aload_n 1, 1) := by decide +kernel
theorem dX3_addMeeting_92 : decode cX3_addMeeting 92 = .ok (.iload_n 3, 1) := by decide +kernel
theorem dX3_addMeeting_93 : decode cX3_addMeeting 93 = .ok (.invokevirtual 59, 3) := by decide +kernel
theorem dX3_addMeeting_96 : decode cX3_addMeeting 96 = .ok (.invokestatic 62, 3) := by decide +kernel
theorem dX3_addMeeting_99 : decode cX3_addMeeting 99 = .ok (.imul, 1) := by decide +kernel
theorem dX3_addMeeting_100 : decode cX3_addMeeting 100 = .ok (.istore 9, 2) := by decide +kernel
theorem dX3_addMeeting_102 : decode cX3_addMeeting 102 = .ok (.iload 7, 2) := by decide +kernel
theorem dX3_addMeeting_104 : decode cX3_addMeeting 104 = .ok (.iload 5, 2) := by decide +kernel
theorem dX3_addMeeting_106 : decode cX3_addMeeting 106 = .ok (.iload 6, 2) := by decide +kernel
theorem dX3_addMeeting_108 : decode cX3_addMeeting 108 = .ok (.aload_n 1, 1) := by decide +kernel
theorem dX3_addMeeting_109 : decode cX3_addMeeting 109 = .ok (.iload_n 2, 1) := by decide +kernel
theorem dX3_addMeeting_110 : decode cX3_addMeeting 110 = .ok (.invokevirtual 55, 3) := by decide +kernel
theorem dX3_addMeeting_113 : decode cX3_addMeeting 113 = .ok (.aload_n 1, 1) := by decide +kernel
theorem dX3_addMeeting_114 : decode cX3_addMeeting 114 = .ok (.iload_n 2, 1) := by decide +kernel
theorem dX3_addMeeting_115 : decode cX3_addMeeting 115 = .ok (.invokevirtual 59, 3) := by decide +kernel
theorem dX3_addMeeting_118 : decode cX3_addMeeting 118 = .ok (.invokestatic 62, 3) := by decide +kernel
theorem dX3_addMeeting_121 : decode cX3_addMeeting 121 = .ok (.imul, 1) := by decide +kernel
theorem dX3_addMeeting_122 : decode cX3_addMeeting 122 = .ok (.istore 10, 2) := by decide +kernel
theorem dX3_addMeeting_124 : decode cX3_addMeeting 124 = .ok (.iload 9, 2) := by decide +kernel
theorem dX3_addMeeting_126 : decode cX3_addMeeting 126 = .ok (.ifCond .lt 22, 3) := by decide +kernel
theorem dX3_addMeeting_129 : decode cX3_addMeeting 129 = .ok (.iload 9, 2) := by decide +kernel
theorem dX3_addMeeting_131 : decode cX3_addMeeting 131 = .ok (.iload 8, 2) := by decide +kernel
theorem dX3_addMeeting_133 : decode cX3_addMeeting 133 = .ok (.if_icmp .gt 15, 3) := by decide +kernel
theorem dX3_addMeeting_136 : decode cX3_addMeeting 136 = .ok (.iload 10, 2) := by decide +kernel
theorem dX3_addMeeting_138 : decode cX3_addMeeting 138 = .ok (.ifCond .lt 10, 3) := by decide +kernel
theorem dX3_addMeeting_141 : decode cX3_addMeeting 141 = .ok (.iload 10, 2) := by decide +kernel
theorem dX3_addMeeting_143 : decode cX3_addMeeting 143 = .ok (.iload 8, 2) := by decide +kernel
theorem dX3_addMeeting_145 : decode cX3_addMeeting 145 = .ok (.if_icmp .le 4, 3) := by decide +kernel
theorem dX3_addMeeting_148 : decode cX3_addMeeting 148 = .ok (.return_, 1) := by decide +kernel
theorem dX3_addMeeting_149 : decode cX3_addMeeting 149 = .ok (.aload_n 1, 1) := by decide +kernel
theorem dX3_addMeeting_150 : decode cX3_addMeeting 150 = .ok (.getfield 31, 3) := by decide +kernel
theorem dX3_addMeeting_153 : decode cX3_addMeeting 153 = .ok (.iload_n 2, 1) := by decide +kernel
theorem dX3_addMeeting_154 : decode cX3_addMeeting 154 = .ok (.iaload, 1) := by decide +kernel
theorem dX3_addMeeting_155 : decode cX3_addMeeting 155 = .ok (.iload 8, 2) := by decide +kernel
theorem dX3_addMeeting_157 : decode cX3_addMeeting 157 = .ok (.imul, 1) := by decide +kernel
theorem dX3_addMeeting_158 : decode cX3_addMeeting 158 = .ok (.iload 9, 2) := by decide +kernel
theorem dX3_addMeeting_160 : decode cX3_addMeeting 160 = .ok (.aload_n 1, 1) := by decide +kernel
theorem dX3_addMeeting_161 : decode cX3_addMeeting 161 = .ok (.iload_n 2, 1) := by decide +kernel
theorem dX3_addMeeting_162 : decode cX3_addMeeting 162 = .ok (.invokevirtual 55, 3) := by decide +kernel
theorem dX3_addMeeting_165 : decode cX3_addMeeting 165 = .ok (.imul, 1) := by decide +kernel
theorem dX3_addMeeting_166 : decode cX3_addMeeting 166 = .ok (.iadd, 1) := by decide +kernel
theorem dX3_addMeeting_167 : decode cX3_addMeeting 167 = .ok (.istore 11, 2) := by decide +kernel
theorem dX3_addMeeting_169 : decode cX3_addMeeting 169 = .ok (.aload_n 1, 1) := by decide +kernel
theorem dX3_addMeeting_170 : decode cX3_addMeeting 170 = .ok (.getfield 34, 3) := by decide +kernel
theorem dX3_addMeeting_173 : decode cX3_addMeeting 173 = .ok (.iload_n 2, 1) := by decide +kernel
theorem dX3_addMeeting_174 : decode cX3_addMeeting 174 = .ok (.iaload, 1) := by decide +kernel
theorem dX3_addMeeting_175 : decode cX3_addMeeting 175 = .ok (.iload 8, 2) := by decide +kernel
theorem dX3_addMeeting_177 : decode cX3_addMeeting 177 = .ok (.imul, 1) := by decide +kernel
theorem dX3_addMeeting_178 : decode cX3_addMeeting 178 = .ok (.iload 9, 2) := by decide +kernel
theorem dX3_addMeeting_180 : decode cX3_addMeeting 180 = .ok (.aload_n 1, 1) := by decide +kernel
theorem dX3_addMeeting_181 : decode cX3_addMeeting 181 = .ok (.iload_n 2, 1) := by decide +kernel
theorem dX3_addMeeting_182 : decode cX3_addMeeting 182 = .ok (.invokevirtual 59, 3) := by decide +kernel
theorem dX3_addMeeting_185 : decode cX3_addMeeting 185 = .ok (.imul, 1) := by decide +kernel
theorem dX3_addMeeting_186 : decode cX3_addMeeting 186 = .ok (.iadd, 1) := by decide +kernel
theorem dX3_addMeeting_187 : decode cX3_addMeeting 187 = .ok (.istore 12, 2) := by decide +kernel
theorem dX3_addMeeting_189 : decode cX3_addMeeting 189 = .ok (.iload 8, 2) := by decide +kernel
theorem dX3_addMeeting_191 : decode cX3_addMeeting 191 = .ok (.iload 11, 2) := by decide +kernel
theorem dX3_addMeeting_193 : decode cX3_addMeeting 193 = .ok (.invokestatic 66, 3) := by decide +kernel
theorem dX3_addMeeting_196 : decode cX3_addMeeting 196 = .ok (.invokestatic 71, 3) := by decide +kernel
theorem dX3_addMeeting_199 : decode cX3_addMeeting 199 = .ok (.iload 12, 2) := by decide +kernel
theorem dX3_addMeeting_201 : decode cX3_addMeeting 201 = .ok (.invokestatic 66, 3) := by decide +kernel
theorem dX3_addMeeting_204 : decode cX3_addMeeting 204 = .ok (.invokestatic 71, 3) := by decide +kernel
theorem dX3_addMeeting_207 : decode cX3_addMeeting 207 = .ok (.istore 13, 2) := by decide +kernel
theorem dX3_addMeeting_209 : decode cX3_addMeeting 209 = .ok (.iload 13, 2) := by decide +kernel
theorem dX3_addMeeting_211 : decode cX3_addMeeting 211 = .ok (.ifCond .le 22, 3) := by decide +kernel
theorem dX3_addMeeting_214 : decode cX3_addMeeting 214 = .ok (.aload_n 0, 1) := by decide +kernel
theorem dX3_addMeeting_215 : decode cX3_addMeeting 215 = .ok (.iload 11, 2) := by decide +kernel
theorem dX3_addMeeting_217 : decode cX3_addMeeting 217 = .ok (.iload 13, 2) := by decide +kernel
theorem dX3_addMeeting_219 : decode cX3_addMeeting 219 = .ok (.idiv, 1) := by decide +kernel
theorem dX3_addMeeting_220 : decode cX3_addMeeting 220 = .ok (.iload 12, 2) := by decide +kernel
theorem dX3_addMeeting_222 : decode cX3_addMeeting 222 = .ok (.iload 13, 2) := by decide +kernel
theorem dX3_addMeeting_224 : decode cX3_addMeeting 224 = .ok (.idiv, 1) := by decide +kernel
theorem dX3_addMeeting_225 : decode cX3_addMeeting 225 = .ok (.iload 8, 2) := by decide +kernel
theorem dX3_addMeeting_227 : decode cX3_addMeeting 227 = .ok (.iload 13, 2) := by decide +kernel
theorem dX3_addMeeting_229 : decode cX3_addMeeting 229 = .ok (.idiv, 1) := by decide +kernel
theorem dX3_addMeeting_230 : decode cX3_addMeeting 230 = .ok (.invokevirtual 37, 3) := by decide +kernel
theorem dX3_addMeeting_233 : decode cX3_addMeeting 233 = .ok (.return_, 1) := by decide +kernel
set_option maxRecDepth 20000 in
theorem ggX3_insert_X3_isBefore : GoodIn wsX3_insert wsX3_isBefore := goodIn_r _ [9, 2, 4, 3, 14, 15, 16, 17, 18] (by decide +kernel) (by decide +kernel)
set_option maxRecDepth 20000 in
theorem gX3_insert_X3_isBefore : GoodIn wsX3_insert (wsV RX3 75 RX3 yX3_isBefore wsX3_isBefore) := goodIn_app (goodIn_of _ (by decide +kernel)) ggX3_insert_X3_isBefore
set_option maxRecDepth 20000 in
theorem ggX3_insert_X3_isSame : GoodIn wsX3_insert wsX3_isSame := goodIn_r _ [13, 2, 3, 4, 14, 15, 16, 17, 18] (by decide +kernel) (by decide +kernel)
set_option maxRecDepth 20000 in
theorem gX3_insert_X3_isSame : GoodIn wsX3_insert (wsV RX3 79 RX3 yX3_isSame wsX3_isSame) := goodIn_app (goodIn_of _ (by decide +kernel)) ggX3_insert_X3_isSame
theorem dX3_insert_0 : decode cX3_insert 0 = .ok (.iconst 0, 1) := by decide +kernel
theorem dX3_insert_1 : decode cX3_insert 1 = .ok (.istore 4, 2) := by decide +kernel
theorem dX3_insert_3 : decode cX3_insert 3 = .ok (.iload 4, 2) := by decide +kernel
theorem dX3_insert_5 : decode cX3_insert 5 = .ok (.aload_n 0, 1) := by decide +kernel
theorem dX3_insert_6 : decode cX3_insert 6 = .ok (.getfield 24, 3) := by decide +kernel
theorem dX3_insert_9 : decode cX3_insert 9 = .ok (.if_icmp .ge 21, 3) := by decide +kernel
theorem dX3_insert_12 : decode cX3_insert 12 = .ok (.aload_n 0, 1) := by decide +kernel
theorem dX3_insert_13 : decode cX3_insert 13 = .ok (.iload 4, 2) := by decide +kernel
theorem dX3_insert_15 : decode cX3_insert 15 = .ok (.iload_n 1, 1) := by decide +kernel
theorem dX3_insert_16 : decode cX3_insert 16 = .ok (.iload_n 2, 1) := by decide +kernel
theorem dX3_insert_17 : decode cX3_insert 17 = .ok (.iload_n 3, 1) := by decide +kernel
theorem dX3_insert_18 : decode cX3_insert 18 = .ok (.invokevirtual 75, 3) := by decide +kernel
theorem dX3_insert_21 : decode cX3_insert 21 = .ok (.ifCond .eq 9, 3) := by decide +kernel
theorem dX3_insert_24 : decode cX3_insert 24 = .ok (.iinc 4 1, 3) := by decide +kernel
theorem dX3_insert_27 : decode cX3_insert 27 = .ok (.goto (-24), 3) := by decide +kernel
theorem dX3_insert_30 : decode cX3_insert 30 = .ok (.aload_n 0, 1) := by decide +kernel
theorem dX3_insert_31 : decode cX3_insert 31 = .ok (.getfield 24, 3) := by decide +kernel
theorem dX3_insert_34 : decode cX3_insert 34 = .ok (.bipush 78, 2) := by decide +kernel
theorem dX3_insert_36 : decode cX3_insert 36 = .ok (.if_icmp .ge 24, 3) := by decide +kernel
theorem dX3_insert_39 : decode cX3_insert 39 = .ok (.iload 4, 2) := by decide +kernel
theorem dX3_insert_41 : decode cX3_insert 41 = .ok (.aload_n 0, 1) := by decide +kernel
theorem dX3_insert_42 : decode cX3_insert 42 = .ok (.getfield 24, 3) := by decide +kernel
theorem dX3_insert_45 : decode cX3_insert 45 = .ok (.if_icmp .ge 16, 3) := by decide +kernel
theorem dX3_insert_48 : decode cX3_insert 48 = .ok (.aload_n 0, 1) := by decide +kernel
theorem dX3_insert_49 : decode cX3_insert 49 = .ok (.iload 4, 2) := by decide +kernel
theorem dX3_insert_51 : decode cX3_insert 51 = .ok (.iload_n 1, 1) := by decide +kernel
theorem dX3_insert_52 : decode cX3_insert 52 = .ok (.iload_n 2, 1) := by decide +kernel
theorem dX3_insert_53 : decode cX3_insert 53 = .ok (.iload_n 3, 1) := by decide +kernel
theorem dX3_insert_54 : decode cX3_insert 54 = .ok (.invokevirtual 79, 3) := by decide +kernel
theorem dX3_insert_57 : decode cX3_insert 57 = .ok (.ifCond .eq 4, 3) := by decide +kernel
theorem dX3_insert_60 : decode cX3_insert 60 = .ok (.return_, 1) := by decide +kernel
theorem dX3_insert_61 : decode cX3_insert 61 = .ok (.aload_n 0, 1) := by decide +kernel
theorem dX3_insert_62 : decode cX3_insert 62 = .ok (.getfield 24, 3) := by decide +kernel
theorem dX3_insert_65 : decode cX3_insert 65 = .ok (.istore 5, 2) := by decide +kernel
theorem dX3_insert_67 : decode cX3_insert 67 = .ok (.iload 5, 2) := by decide +kernel
theorem dX3_insert_69 : decode cX3_insert 69 = .ok (.iload 4, 2) := by decide +kernel
theorem dX3_insert_71 : decode cX3_insert 71 = .ok (.if_icmp .le 57, 3) := by decide +kernel
theorem dX3_insert_74 : decode cX3_insert 74 = .ok (.aload_n 0, 1) := by decide +kernel
theorem dX3_insert_75 : decode cX3_insert 75 = .ok (.getfield 9, 3) := by decide +kernel
theorem dX3_insert_78 : decode cX3_insert 78 = .ok (.iload 5, 2) := by decide +kernel
theorem dX3_insert_80 : decode cX3_insert 80 = .ok (.aload_n 0, 1) := by decide +kernel
theorem dX3_insert_81 : decode cX3_insert 81 = .ok (.getfield 9, 3) := by decide +kernel
theorem dX3_insert_84 : decode cX3_insert 84 = .ok (.iload 5, 2) := by decide +kernel
theorem dX3_insert_86 : decode cX3_insert 86 = .ok (.iconst 1, 1) := by decide +kernel
theorem dX3_insert_87 : decode cX3_insert 87 = .ok (.isub, 1) := by decide +kernel
theorem dX3_insert_88 : decode cX3_insert 88 = .ok (.iaload, 1) := by decide +kernel
theorem dX3_insert_89 : decode cX3_insert 89 = .ok (.iastore, 1) := by decide +kernel
theorem dX3_insert_90 : decode cX3_insert 90 = .ok (.aload_n 0, 1) := by decide +kernel
theorem dX3_insert_91 : decode cX3_insert 91 = .ok (.getfield 15, 3) := by decide +kernel
theorem dX3_insert_94 : decode cX3_insert 94 = .ok (.iload 5, 2) := by decide +kernel
theorem dX3_insert_96 : decode cX3_insert 96 = .ok (.aload_n 0, 1) := by decide +kernel
theorem dX3_insert_97 : decode cX3_insert 97 = .ok (.getfield 15, 3) := by decide +kernel
theorem dX3_insert_100 : decode cX3_insert 100 = .ok (.iload 5, 2) := by decide +kernel
theorem dX3_insert_102 : decode cX3_insert 102 = .ok (.iconst 1, 1) := by decide +kernel
theorem dX3_insert_103 : decode cX3_insert 103 = .ok (.isub, 1) := by decide +kernel
theorem dX3_insert_104 : decode cX3_insert 104 = .ok (.iaload, 1) := by decide +kernel
theorem dX3_insert_105 : decode cX3_insert 105 = .ok (.iastore, 1) := by decide +kernel
theorem dX3_insert_106 : decode cX3_insert 106 = .ok (.aload_n 0, 1) := by decide +kernel
theorem dX3_insert_107 : decode cX3_insert 107 = .ok (.getfield 18, 3) := by decide +kernel
theorem dX3_insert_110 : decode cX3_insert 110 = .ok (.iload 5, 2) := by decide +kernel
theorem dX3_insert_112 : decode cX3_insert 112 = .ok (.aload_n 0, 1) := by decide +kernel
theorem dX3_insert_113 : decode cX3_insert 113 = .ok (.getfield 18, 3) := by decide +kernel
theorem dX3_insert_116 : decode cX3_insert 116 = .ok (.iload 5, 2) := by decide +kernel
theorem dX3_insert_118 : decode cX3_insert 118 = .ok (.iconst 1, 1) := by decide +kernel
theorem dX3_insert_119 : decode cX3_insert 119 = .ok (.isub, 1) := by decide +kernel
theorem dX3_insert_120 : decode cX3_insert 120 = .ok (.iaload, 1) := by decide +kernel
theorem dX3_insert_121 : decode cX3_insert 121 = .ok (.iastore, 1) := by decide +kernel
theorem dX3_insert_122 : decode cX3_insert 122 = .ok (.iinc 5 (-1), 3) := by decide +kernel
theorem dX3_insert_125 : decode cX3_insert 125 = .ok (.goto (-58), 3) := by decide +kernel
theorem dX3_insert_128 : decode cX3_insert 128 = .ok (.aload_n 0, 1) := by decide +kernel
theorem dX3_insert_129 : decode cX3_insert 129 = .ok (.getfield 9, 3) := by decide +kernel
theorem dX3_insert_132 : decode cX3_insert 132 = .ok (.iload 4, 2) := by decide +kernel
theorem dX3_insert_134 : decode cX3_insert 134 = .ok (.iload_n 1, 1) := by decide +kernel
theorem dX3_insert_135 : decode cX3_insert 135 = .ok (.iastore, 1) := by decide +kernel
theorem dX3_insert_136 : decode cX3_insert 136 = .ok (.aload_n 0, 1) := by decide +kernel
theorem dX3_insert_137 : decode cX3_insert 137 = .ok (.getfield 15, 3) := by decide +kernel
theorem dX3_insert_140 : decode cX3_insert 140 = .ok (.iload 4, 2) := by decide +kernel
theorem dX3_insert_142 : decode cX3_insert 142 = .ok (.iload_n 2, 1) := by decide +kernel
theorem dX3_insert_143 : decode cX3_insert 143 = .ok (.iastore, 1) := by decide +kernel
theorem dX3_insert_144 : decode cX3_insert 144 = .ok (.aload_n 0, 1) := by decide +kernel
theorem dX3_insert_145 : decode cX3_insert 145 = .ok (.getfield 18, 3) := by decide +kernel
theorem dX3_insert_148 : decode cX3_insert 148 = .ok (.iload 4, 2) := by decide +kernel
theorem dX3_insert_150 : decode cX3_insert 150 = .ok (.iload_n 3, 1) := by decide +kernel
theorem dX3_insert_151 : decode cX3_insert 151 = .ok (.iastore, 1) := by decide +kernel
theorem dX3_insert_152 : decode cX3_insert 152 = .ok (.aload_n 0, 1) := by decide +kernel
theorem dX3_insert_153 : decode cX3_insert 153 = .ok (.dup, 1) := by decide +kernel
theorem dX3_insert_154 : decode cX3_insert 154 = .ok (.getfield 24, 3) := by decide +kernel
theorem dX3_insert_157 : decode cX3_insert 157 = .ok (.iconst 1, 1) := by decide +kernel
theorem dX3_insert_158 : decode cX3_insert 158 = .ok (.iadd, 1) := by decide +kernel
theorem dX3_insert_159 : decode cX3_insert 159 = .ok (.putfield 24, 3) := by decide +kernel
theorem dX3_insert_162 : decode cX3_insert 162 = .ok (.return_, 1) := by decide +kernel
theorem dX3_isBefore_0 : decode cX3_isBefore 0 = .ok (.aload_n 0, 1) := by decide +kernel
theorem dX3_isBefore_1 : decode cX3_isBefore 1 = .ok (.getfield 9, 3) := by decide +kernel
theorem dX3_isBefore_4 : decode cX3_isBefore 4 = .ok (.iload_n 1, 1) := by decide +kernel
theorem dX3_isBefore_5 : decode cX3_isBefore 5 = .ok (.iaload, 1) := by decide +kernel
theorem dX3_isBefore_6 : decode cX3_isBefore 6 = .ok (.i2l, 1) := by decide +kernel
theorem dX3_isBefore_7 : decode cX3_isBefore 7 = .ok (.iload 4, 2) := by decide +kernel
theorem dX3_isBefore_9 : decode cX3_isBefore 9 = .ok (.i2l, 1) := by decide +kernel
theorem dX3_isBefore_10 : decode cX3_isBefore 10 = .ok (.lmul, 1) := by decide +kernel
theorem dX3_isBefore_11 : decode cX3_isBefore 11 = .ok (.lstore 5, 2) := by decide +kernel
theorem dX3_isBefore_13 : decode cX3_isBefore 13 = .ok (.iload_n 2, 1) := by decide +kernel
theorem dX3_isBefore_14 : decode cX3_isBefore 14 = .ok (.i2l, 1) := by decide +kernel
theorem dX3_isBefore_15 : decode cX3_isBefore 15 = .ok (.aload_n 0, 1) := by decide +kernel
theorem dX3_isBefore_16 : decode cX3_isBefore 16 = .ok (.getfield 18, 3) := by decide +kernel
theorem dX3_isBefore_19 : decode cX3_isBefore 19 = .ok (.iload_n 1, 1) := by decide +kernel
theorem dX3_isBefore_20 : decode cX3_isBefore 20 = .ok (.iaload, 1) := by decide +kernel
theorem dX3_isBefore_21 : decode cX3_isBefore 21 = .ok (.i2l, 1) := by decide +kernel
theorem dX3_isBefore_22 : decode cX3_isBefore 22 = .ok (.lmul, 1) := by decide +kernel
theorem dX3_isBefore_23 : decode cX3_isBefore 23 = .ok (.lstore 7, 2) := by decide +kernel
theorem dX3_isBefore_25 : decode cX3_isBefore 25 = .ok (.lload 5, 2) := by decide +kernel
theorem dX3_isBefore_27 : decode cX3_isBefore 27 = .ok (.lload 7, 2) := by decide +kernel
theorem dX3_isBefore_29 : decode cX3_isBefore 29 = .ok (.lcmp, 1) := by decide +kernel
theorem dX3_isBefore_30 : decode cX3_isBefore 30 = .ok (.ifCond .eq 17, 3) := by decide +kernel
theorem dX3_isBefore_33 : decode cX3_isBefore 33 = .ok (.lload 5, 2) := by decide +kernel
theorem dX3_isBefore_35 : decode cX3_isBefore 35 = .ok (.lload 7, 2) := by decide +kernel
theorem dX3_isBefore_37 : decode cX3_isBefore 37 = .ok (.lcmp, 1) := by decide +kernel
theorem dX3_isBefore_38 : decode cX3_isBefore 38 = .ok (.ifCond .ge 7, 3) := by decide +kernel
theorem dX3_isBefore_41 : decode cX3_isBefore 41 = .ok (.iconst 1, 1) := by decide +kernel
theorem dX3_isBefore_42 : decode cX3_isBefore 42 = .ok (.goto 4, 3) := by decide +kernel
theorem dX3_isBefore_45 : decode cX3_isBefore 45 = .ok (.iconst 0, 1) := by decide +kernel
theorem dX3_isBefore_46 : decode cX3_isBefore 46 = .ok (.ireturn, 1) := by decide +kernel
theorem dX3_isBefore_47 : decode cX3_isBefore 47 = .ok (.aload_n 0, 1) := by decide +kernel
theorem dX3_isBefore_48 : decode cX3_isBefore 48 = .ok (.getfield 15, 3) := by decide +kernel
theorem dX3_isBefore_51 : decode cX3_isBefore 51 = .ok (.iload_n 1, 1) := by decide +kernel
theorem dX3_isBefore_52 : decode cX3_isBefore 52 = .ok (.iaload, 1) := by decide +kernel
theorem dX3_isBefore_53 : decode cX3_isBefore 53 = .ok (.i2l, 1) := by decide +kernel
theorem dX3_isBefore_54 : decode cX3_isBefore 54 = .ok (.iload 4, 2) := by decide +kernel
theorem dX3_isBefore_56 : decode cX3_isBefore 56 = .ok (.i2l, 1) := by decide +kernel
theorem dX3_isBefore_57 : decode cX3_isBefore 57 = .ok (.lmul, 1) := by decide +kernel
theorem dX3_isBefore_58 : decode cX3_isBefore 58 = .ok (.iload_n 3, 1) := by decide +kernel
theorem dX3_isBefore_59 : decode cX3_isBefore 59 = .ok (.i2l, 1) := by decide +kernel
theorem dX3_isBefore_60 : decode cX3_isBefore 60 = .ok (.aload_n 0, 1) := by decide +kernel
theorem dX3_isBefore_61 : decode cX3_isBefore 61 = .ok (.getfield 18, 3) := by decide +kernel
theorem dX3_isBefore_64 : decode cX3_isBefore 64 = .ok (.iload_n 1, 1) := by decide +kernel
theorem dX3_isBefore_65 : decode cX3_isBefore 65 = .ok (.iaload, 1) := by decide +kernel
theorem dX3_isBefore_66 : decode cX3_isBefore 66 = .ok (.i2l, 1) := by decide +kernel
theorem dX3_isBefore_67 : decode cX3_isBefore 67 = .ok (.lmul, 1) := by decide +kernel
theorem dX3_isBefore_68 : decode cX3_isBefore 68 = .ok (.lcmp, 1) := by decide +kernel
theorem dX3_isBefore_69 : decode cX3_isBefore 69 = .ok (.ifCond .ge 7, 3) := by decide +kernel
theorem dX3_isBefore_72 : decode cX3_isBefore 72 = .ok (.iconst 1, 1) := by decide +kernel
theorem dX3_isBefore_73 : decode cX3_isBefore 73 = .ok (.goto 4, 3) := by decide +kernel
theorem dX3_isBefore_76 : decode cX3_isBefore 76 = .ok (.iconst 0, 1) := by decide +kernel
theorem dX3_isBefore_77 : decode cX3_isBefore 77 = .ok (.ireturn, 1) := by decide +kernel
theorem dX3_isSame_0 : decode cX3_isSame 0 = .ok (.aload_n 0, 1) := by decide +kernel
theorem dX3_isSame_1 : decode cX3_isSame 1 = .ok (.getfield 9, 3) := by decide +kernel
theorem dX3_isSame_4 : decode cX3_isSame 4 = .ok (.iload_n 1, 1) := by decide +kernel
theorem dX3_isSame_5 : decode cX3_isSame 5 = .ok (.iaload, 1) := by decide +kernel
theorem dX3_isSame_6 : decode cX3_isSame 6 = .ok (.iload_n 2, 1) := by decide +kernel
theorem dX3_isSame_7 : decode cX3_isSame 7 = .ok (.if_icmp .ne 28, 3) := by decide +kernel
theorem dX3_isSame_10 : decode cX3_isSame 10 = .ok (.aload_n 0, 1) := by decide +kernel
theorem dX3_isSame_11 : decode cX3_isSame 11 = .ok (.getfield 15, 3) := by decide +kernel
theorem dX3_isSame_14 : decode cX3_isSame 14 = .ok (.iload_n 1, 1) := by decide +kernel
theorem dX3_isSame_15 : decode cX3_isSame 15 = .ok (.iaload, 1) := by decide +kernel
theorem dX3_isSame_16 : decode cX3_isSame 16 = .ok (.iload_n 3, 1) := by decide +kernel
theorem dX3_isSame_17 : decode cX3_isSame 17 = .ok (.if_icmp .ne 18, 3) := by decide +kernel
theorem dX3_isSame_20 : decode cX3_isSame 20 = .ok (.aload_n 0, 1) := by decide +kernel
theorem dX3_isSame_21 : decode cX3_isSame 21 = .ok (.getfield 18, 3) := by decide +kernel
theorem dX3_isSame_24 : decode cX3_isSame 24 = .ok (.iload_n 1, 1) := by decide +kernel
theorem dX3_isSame_25 : decode cX3_isSame 25 = .ok (.iaload, 1) := by decide +kernel
theorem dX3_isSame_26 : decode cX3_isSame 26 = .ok (.iload 4, 2) := by decide +kernel
theorem dX3_isSame_28 : decode cX3_isSame 28 = .ok (.if_icmp .ne 7, 3) := by decide +kernel
theorem dX3_isSame_31 : decode cX3_isSame 31 = .ok (.iconst 1, 1) := by decide +kernel
theorem dX3_isSame_32 : decode cX3_isSame 32 = .ok (.goto 4, 3) := by decide +kernel
theorem dX3_isSame_35 : decode cX3_isSame 35 = .ok (.iconst 0, 1) := by decide +kernel
theorem dX3_isSame_36 : decode cX3_isSame 36 = .ok (.ireturn, 1) := by decide +kernel
theorem dX3_cross_0 : decode cX3_cross 0 = .ok (.iload_n 0, 1) := by decide +kernel
theorem dX3_cross_1 : decode cX3_cross 1 = .ok (.iload_n 3, 1) := by decide +kernel
theorem dX3_cross_2 : decode cX3_cross 2 = .ok (.imul, 1) := by decide +kernel
theorem dX3_cross_3 : decode cX3_cross 3 = .ok (.iload_n 2, 1) := by decide +kernel
theorem dX3_cross_4 : decode cX3_cross 4 = .ok (.iload_n 1, 1) := by decide +kernel
theorem dX3_cross_5 : decode cX3_cross 5 = .ok (.imul, 1) := by decide +kernel
theorem dX3_cross_6 : decode cX3_cross 6 = .ok (.isub, 1) := by decide +kernel
theorem dX3_cross_7 : decode cX3_cross 7 = .ok (.ireturn, 1) := by decide +kernel
theorem dX3_greatestDivisor_0 : decode cX3_greatestDivisor 0 = .ok (.iload_n 0, 1) := by decide +kernel
theorem dX3_greatestDivisor_1 : decode cX3_greatestDivisor 1 = .ok (.istore_n 2, 1) := by decide +kernel
theorem dX3_greatestDivisor_2 : decode cX3_greatestDivisor 2 = .ok (.iload_n 1, 1) := by decide +kernel
theorem dX3_greatestDivisor_3 : decode cX3_greatestDivisor 3 = .ok (.istore_n 3, 1) := by decide +kernel
theorem dX3_greatestDivisor_4 : decode cX3_greatestDivisor 4 = .ok (.iconst 0, 1) := by decide +kernel
theorem dX3_greatestDivisor_5 : decode cX3_greatestDivisor 5 = .ok (.istore 4, 2) := by decide +kernel
theorem dX3_greatestDivisor_7 : decode cX3_greatestDivisor 7 = .ok (.iload 4, 2) := by decide +kernel
theorem dX3_greatestDivisor_9 : decode cX3_greatestDivisor 9 = .ok (.bipush 64, 2) := by decide +kernel
theorem dX3_greatestDivisor_11 : decode cX3_greatestDivisor 11 = .ok (.if_icmp .ge 23, 3) := by decide +kernel
theorem dX3_greatestDivisor_14 : decode cX3_greatestDivisor 14 = .ok (.iload_n 3, 1) := by decide +kernel
theorem dX3_greatestDivisor_15 : decode cX3_greatestDivisor 15 = .ok (.ifCond .eq 19, 3) := by decide +kernel
theorem dX3_greatestDivisor_18 : decode cX3_greatestDivisor 18 = .ok (.iload_n 2, 1) := by decide +kernel
theorem dX3_greatestDivisor_19 : decode cX3_greatestDivisor 19 = .ok (.iload_n 3, 1) := by decide +kernel
theorem dX3_greatestDivisor_20 : decode cX3_greatestDivisor 20 = .ok (.irem, 1) := by decide +kernel
theorem dX3_greatestDivisor_21 : decode cX3_greatestDivisor 21 = .ok (.istore 5, 2) := by decide +kernel
theorem dX3_greatestDivisor_23 : decode cX3_greatestDivisor 23 = .ok (.iload_n 3, 1) := by decide +kernel
theorem dX3_greatestDivisor_24 : decode cX3_greatestDivisor 24 = .ok (.istore_n 2, 1) := by decide +kernel
theorem dX3_greatestDivisor_25 : decode cX3_greatestDivisor 25 = .ok (.iload 5, 2) := by decide +kernel
theorem dX3_greatestDivisor_27 : decode cX3_greatestDivisor 27 = .ok (.istore_n 3, 1) := by decide +kernel
theorem dX3_greatestDivisor_28 : decode cX3_greatestDivisor 28 = .ok (.iinc 4 1, 3) := by decide +kernel
theorem dX3_greatestDivisor_31 : decode cX3_greatestDivisor 31 = .ok (.goto (-24), 3) := by decide +kernel
theorem dX3_greatestDivisor_34 : decode cX3_greatestDivisor 34 = .ok (.iload_n 2, 1) := by decide +kernel
theorem dX3_greatestDivisor_35 : decode cX3_greatestDivisor 35 = .ok (.ireturn, 1) := by decide +kernel
theorem dJ6_bitCount_0f7a4_0 : decode cJ6_bitCount_0f7a4 0 = .ok (.iload_n 0, 1) := by decide +kernel
theorem dJ6_bitCount_0f7a4_1 : decode cJ6_bitCount_0f7a4 1 = .ok (.iload_n 0, 1) := by decide +kernel
theorem dJ6_bitCount_0f7a4_2 : decode cJ6_bitCount_0f7a4 2 = .ok (.iconst 1, 1) := by decide +kernel
theorem dJ6_bitCount_0f7a4_3 : decode cJ6_bitCount_0f7a4 3 = .ok (.iushr, 1) := by decide +kernel
theorem dJ6_bitCount_0f7a4_4 : decode cJ6_bitCount_0f7a4 4 = .ok (.ldc_w 265, 3) := by decide +kernel
theorem dJ6_bitCount_0f7a4_7 : decode cJ6_bitCount_0f7a4 7 = .ok (.iand, 1) := by decide +kernel
theorem dJ6_bitCount_0f7a4_8 : decode cJ6_bitCount_0f7a4 8 = .ok (.isub, 1) := by decide +kernel
theorem dJ6_bitCount_0f7a4_9 : decode cJ6_bitCount_0f7a4 9 = .ok (.istore_n 0, 1) := by decide +kernel
theorem dJ6_bitCount_0f7a4_10 : decode cJ6_bitCount_0f7a4 10 = .ok (.iload_n 0, 1) := by decide +kernel
theorem dJ6_bitCount_0f7a4_11 : decode cJ6_bitCount_0f7a4 11 = .ok (.ldc_w 266, 3) := by decide +kernel
theorem dJ6_bitCount_0f7a4_14 : decode cJ6_bitCount_0f7a4 14 = .ok (.iand, 1) := by decide +kernel
theorem dJ6_bitCount_0f7a4_15 : decode cJ6_bitCount_0f7a4 15 = .ok (.iload_n 0, 1) := by decide +kernel
theorem dJ6_bitCount_0f7a4_16 : decode cJ6_bitCount_0f7a4 16 = .ok (.iconst 2, 1) := by decide +kernel
theorem dJ6_bitCount_0f7a4_17 : decode cJ6_bitCount_0f7a4 17 = .ok (.iushr, 1) := by decide +kernel
theorem dJ6_bitCount_0f7a4_18 : decode cJ6_bitCount_0f7a4 18 = .ok (.ldc_w 266, 3) := by decide +kernel
theorem dJ6_bitCount_0f7a4_21 : decode cJ6_bitCount_0f7a4 21 = .ok (.iand, 1) := by decide +kernel
theorem dJ6_bitCount_0f7a4_22 : decode cJ6_bitCount_0f7a4 22 = .ok (.iadd, 1) := by decide +kernel
theorem dJ6_bitCount_0f7a4_23 : decode cJ6_bitCount_0f7a4 23 = .ok (.istore_n 0, 1) := by decide +kernel
theorem dJ6_bitCount_0f7a4_24 : decode cJ6_bitCount_0f7a4 24 = .ok (.iload_n 0, 1) := by decide +kernel
theorem dJ6_bitCount_0f7a4_25 : decode cJ6_bitCount_0f7a4 25 = .ok (.iload_n 0, 1) := by decide +kernel
theorem dJ6_bitCount_0f7a4_26 : decode cJ6_bitCount_0f7a4 26 = .ok (.iconst 4, 1) := by decide +kernel
theorem dJ6_bitCount_0f7a4_27 : decode cJ6_bitCount_0f7a4 27 = .ok (.iushr, 1) := by decide +kernel
theorem dJ6_bitCount_0f7a4_28 : decode cJ6_bitCount_0f7a4 28 = .ok (.iadd, 1) := by decide +kernel
theorem dJ6_bitCount_0f7a4_29 : decode cJ6_bitCount_0f7a4 29 = .ok (.ldc_w 267, 3) := by decide +kernel
theorem dJ6_bitCount_0f7a4_32 : decode cJ6_bitCount_0f7a4 32 = .ok (.iand, 1) := by decide +kernel
theorem dJ6_bitCount_0f7a4_33 : decode cJ6_bitCount_0f7a4 33 = .ok (.istore_n 0, 1) := by decide +kernel
theorem dJ6_bitCount_0f7a4_34 : decode cJ6_bitCount_0f7a4 34 = .ok (.iload_n 0, 1) := by decide +kernel
theorem dJ6_bitCount_0f7a4_35 : decode cJ6_bitCount_0f7a4 35 = .ok (.iload_n 0, 1) := by decide +kernel
theorem dJ6_bitCount_0f7a4_36 : decode cJ6_bitCount_0f7a4 36 = .ok (.bipush 8, 2) := by decide +kernel
theorem dJ6_bitCount_0f7a4_38 : decode cJ6_bitCount_0f7a4 38 = .ok (.iushr, 1) := by decide +kernel
theorem dJ6_bitCount_0f7a4_39 : decode cJ6_bitCount_0f7a4 39 = .ok (.iadd, 1) := by decide +kernel
theorem dJ6_bitCount_0f7a4_40 : decode cJ6_bitCount_0f7a4 40 = .ok (.istore_n 0, 1) := by decide +kernel
theorem dJ6_bitCount_0f7a4_41 : decode cJ6_bitCount_0f7a4 41 = .ok (.iload_n 0, 1) := by decide +kernel
theorem dJ6_bitCount_0f7a4_42 : decode cJ6_bitCount_0f7a4 42 = .ok (.iload_n 0, 1) := by decide +kernel
theorem dJ6_bitCount_0f7a4_43 : decode cJ6_bitCount_0f7a4 43 = .ok (.bipush 16, 2) := by decide +kernel
theorem dJ6_bitCount_0f7a4_45 : decode cJ6_bitCount_0f7a4 45 = .ok (.iushr, 1) := by decide +kernel
theorem dJ6_bitCount_0f7a4_46 : decode cJ6_bitCount_0f7a4 46 = .ok (.iadd, 1) := by decide +kernel
theorem dJ6_bitCount_0f7a4_47 : decode cJ6_bitCount_0f7a4 47 = .ok (.istore_n 0, 1) := by decide +kernel
theorem dJ6_bitCount_0f7a4_48 : decode cJ6_bitCount_0f7a4 48 = .ok (.iload_n 0, 1) := by decide +kernel
theorem dJ6_bitCount_0f7a4_49 : decode cJ6_bitCount_0f7a4 49 = .ok (.bipush 63, 2) := by decide +kernel
theorem dJ6_bitCount_0f7a4_51 : decode cJ6_bitCount_0f7a4 51 = .ok (.iand, 1) := by decide +kernel
theorem dJ6_bitCount_0f7a4_52 : decode cJ6_bitCount_0f7a4 52 = .ok (.ireturn, 1) := by decide +kernel
theorem dJ9_abs_0f7a4_0 : decode cJ9_abs_0f7a4 0 = .ok (.iload_n 0, 1) := by decide +kernel
theorem dJ9_abs_0f7a4_1 : decode cJ9_abs_0f7a4 1 = .ok (.ifCond .ge 8, 3) := by decide +kernel
theorem dJ9_abs_0f7a4_4 : decode cJ9_abs_0f7a4 4 = .ok (.iload_n 0, 1) := by decide +kernel
theorem dJ9_abs_0f7a4_5 : decode cJ9_abs_0f7a4 5 = .ok (.ineg, 1) := by decide +kernel
theorem dJ9_abs_0f7a4_6 : decode cJ9_abs_0f7a4 6 = .ok (.goto 4, 3) := by decide +kernel
theorem dJ9_abs_0f7a4_9 : decode cJ9_abs_0f7a4 9 = .ok (.iload_n 0, 1) := by decide +kernel
theorem dJ9_abs_0f7a4_10 : decode cJ9_abs_0f7a4 10 = .ok (.ireturn, 1) := by decide +kernel
theorem dJ9_max_7cf53_0 : decode cJ9_max_7cf53 0 = .ok (.iload_n 0, 1) := by decide +kernel
theorem dJ9_max_7cf53_1 : decode cJ9_max_7cf53 1 = .ok (.iload_n 1, 1) := by decide +kernel
theorem dJ9_max_7cf53_2 : decode cJ9_max_7cf53 2 = .ok (.if_icmp .lt 7, 3) := by decide +kernel
theorem dJ9_max_7cf53_5 : decode cJ9_max_7cf53 5 = .ok (.iload_n 0, 1) := by decide +kernel
theorem dJ9_max_7cf53_6 : decode cJ9_max_7cf53 6 = .ok (.goto 4, 3) := by decide +kernel
theorem dJ9_max_7cf53_9 : decode cJ9_max_7cf53 9 = .ok (.iload_n 1, 1) := by decide +kernel
theorem dJ9_max_7cf53_10 : decode cJ9_max_7cf53 10 = .ok (.ireturn, 1) := by decide +kernel
theorem dJ9_min_7cf53_0 : decode cJ9_min_7cf53 0 = .ok (.iload_n 0, 1) := by decide +kernel
theorem dJ9_min_7cf53_1 : decode cJ9_min_7cf53 1 = .ok (.iload_n 1, 1) := by decide +kernel
theorem dJ9_min_7cf53_2 : decode cJ9_min_7cf53 2 = .ok (.if_icmp .gt 7, 3) := by decide +kernel
theorem dJ9_min_7cf53_5 : decode cJ9_min_7cf53 5 = .ok (.iload_n 0, 1) := by decide +kernel
theorem dJ9_min_7cf53_6 : decode cJ9_min_7cf53 6 = .ok (.goto 4, 3) := by decide +kernel
theorem dJ9_min_7cf53_9 : decode cJ9_min_7cf53 9 = .ok (.iload_n 1, 1) := by decide +kernel
theorem dJ9_min_7cf53_10 : decode cJ9_min_7cf53 10 = .ok (.ireturn, 1) := by decide +kernel
