theorem dX5_init_0 : decode cX5_init 0 = .ok (.aload_n 0, 1) := by decide +kernel
theorem dX5_init_1 : decode cX5_init 1 = .ok (.invokespecial 1, 3) := by decide +kernel
theorem dX5_init_4 : decode cX5_init 4 = .ok (.aload_n 0, 1) := by decide +kernel
theorem dX5_init_5 : decode cX5_init 5 = .ok (.iconst 2, 1) := by decide +kernel
theorem dX5_init_6 : decode cX5_init 6 = .ok (.newarray .int, 2) := by decide +kernel
theorem dX5_init_8 : decode cX5_init 8 = .ok (.putfield 7, 3) := by decide +kernel
theorem dX5_init_11 : decode cX5_init 11 = .ok (.aload_n 0, 1) := by decide +kernel
theorem dX5_init_12 : decode cX5_init 12 = .ok (.bipush 12, 2) := by decide +kernel
theorem dX5_init_14 : decode cX5_init 14 = .ok (.newarray .int, 2) := by decide +kernel
theorem dX5_init_16 : decode cX5_init 16 = .ok (.putfield 13, 3) := by decide +kernel
theorem dX5_init_19 : decode cX5_init 19 = .ok (.aload_n 0, 1) := by decide +kernel
theorem dX5_init_20 : decode cX5_init 20 = .ok (.bipush 12, 2) := by decide +kernel
theorem dX5_init_22 : decode cX5_init 22 = .ok (.newarray .int, 2) := by decide +kernel
theorem dX5_init_24 : decode cX5_init 24 = .ok (.putfield 16, 3) := by decide +kernel
theorem dX5_init_27 : decode cX5_init 27 = .ok (.aload_n 0, 1) := by decide +kernel
theorem dX5_init_28 : decode cX5_init 28 = .ok (.bipush 12, 2) := by decide +kernel
theorem dX5_init_30 : decode cX5_init 30 = .ok (.newarray .int, 2) := by decide +kernel
theorem dX5_init_32 : decode cX5_init 32 = .ok (.putfield 19, 3) := by decide +kernel
theorem dX5_init_35 : decode cX5_init 35 = .ok (.aload_n 0, 1) := by decide +kernel
theorem dX5_init_36 : decode cX5_init 36 = .ok (.bipush 12, 2) := by decide +kernel
theorem dX5_init_38 : decode cX5_init 38 = .ok (.newarray .int, 2) := by decide +kernel
theorem dX5_init_40 : decode cX5_init 40 = .ok (.putfield 22, 3) := by decide +kernel
theorem dX5_init_43 : decode cX5_init 43 = .ok (.aload_n 0, 1) := by decide +kernel
theorem dX5_init_44 : decode cX5_init 44 = .ok (.bipush 12, 2) := by decide +kernel
theorem dX5_init_46 : decode cX5_init 46 = .ok (.newarray .int, 2) := by decide +kernel
theorem dX5_init_48 : decode cX5_init 48 = .ok (.putfield 25, 3) := by decide +kernel
theorem dX5_init_51 : decode cX5_init 51 = .ok (.aload_n 0, 1) := by decide +kernel
theorem dX5_init_52 : decode cX5_init 52 = .ok (.bipush 12, 2) := by decide +kernel
theorem dX5_init_54 : decode cX5_init 54 = .ok (.newarray .int, 2) := by decide +kernel
theorem dX5_init_56 : decode cX5_init 56 = .ok (.putfield 28, 3) := by decide +kernel
theorem dX5_init_59 : decode cX5_init 59 = .ok (.aload_n 0, 1) := by decide +kernel
theorem dX5_init_60 : decode cX5_init 60 = .ok (.bipush 12, 2) := by decide +kernel
theorem dX5_init_62 : decode cX5_init 62 = .ok (.newarray .int, 2) := by decide +kernel
theorem dX5_init_64 : decode cX5_init 64 = .ok (.putfield 31, 3) := by decide +kernel
theorem dX5_init_67 : decode cX5_init 67 = .ok (.aload_n 0, 1) := by decide +kernel
theorem dX5_init_68 : decode cX5_init 68 = .ok (.bipush 80, 2) := by decide +kernel
theorem dX5_init_70 : decode cX5_init 70 = .ok (.newarray .int, 2) := by decide +kernel
theorem dX5_init_72 : decode cX5_init 72 = .ok (.putfield 34, 3) := by decide +kernel
theorem dX5_init_75 : decode cX5_init 75 = .ok (.aload_n 0, 1) := by decide +kernel
theorem dX5_init_76 : decode cX5_init 76 = .ok (.bipush 80, 2) := by decide +kernel
theorem dX5_init_78 : decode cX5_init 78 = .ok (.newarray .int, 2) := by decide +kernel
theorem dX5_init_80 : decode cX5_init 80 = .ok (.putfield 37, 3) := by decide +kernel
theorem dX5_init_83 : decode cX5_init 83 = .ok (.aload_n 0, 1) := by decide +kernel
theorem dX5_init_84 : decode cX5_init 84 = .ok (.bipush 80, 2) := by decide +kernel
theorem dX5_init_86 : decode cX5_init 86 = .ok (.newarray .int, 2) := by decide +kernel
theorem dX5_init_88 : decode cX5_init 88 = .ok (.putfield 40, 3) := by decide +kernel
theorem dX5_init_91 : decode cX5_init 91 = .ok (.aload_n 0, 1) := by decide +kernel
theorem dX5_init_92 : decode cX5_init 92 = .ok (.sipush 300, 3) := by decide +kernel
theorem dX5_init_95 : decode cX5_init 95 = .ok (.newarray .int, 2) := by decide +kernel
theorem dX5_init_97 : decode cX5_init 97 = .ok (.putfield 43, 3) := by decide +kernel
theorem dX5_init_100 : decode cX5_init 100 = .ok (.aload_n 0, 1) := by decide +kernel
theorem dX5_init_101 : decode cX5_init 101 = .ok (.sipush 300, 3) := by decide +kernel
theorem dX5_init_104 : decode cX5_init 104 = .ok (.newarray .int, 2) := by decide +kernel
theorem dX5_init_106 : decode cX5_init 106 = .ok (.putfield 46, 3) := by decide +kernel
theorem dX5_init_109 : decode cX5_init 109 = .ok (.aload_n 0, 1) := by decide +kernel
theorem dX5_init_110 : decode cX5_init 110 = .ok (.sipush 600, 3) := by decide +kernel
theorem dX5_init_113 : decode cX5_init 113 = .ok (.newarray .int, 2) := by decide +kernel
theorem dX5_init_115 : decode cX5_init 115 = .ok (.putfield 49, 3) := by decide +kernel
theorem dX5_init_118 : decode cX5_init 118 = .ok (.aload_n 0, 1) := by decide +kernel
theorem dX5_init_119 : decode cX5_init 119 = .ok (.sipush 600, 3) := by decide +kernel
theorem dX5_init_122 : decode cX5_init 122 = .ok (.newarray .boolean, 2) := by decide +kernel
theorem dX5_init_124 : decode cX5_init 124 = .ok (.putfield 52, 3) := by decide +kernel
theorem dX5_init_127 : decode cX5_init 127 = .ok (.aload_n 0, 1) := by decide +kernel
theorem dX5_init_128 : decode cX5_init 128 = .ok (.sipush 600, 3) := by decide +kernel
theorem dX5_init_131 : decode cX5_init 131 = .ok (.newarray .boolean, 2) := by decide +kernel
theorem dX5_init_133 : decode cX5_init 133 = .ok (.putfield 56, 3) := by decide +kernel
theorem dX5_init_136 : decode cX5_init 136 = .ok (.return_, 1) := by decide +kernel
theorem dX5_thrown_0 : decode cX5_thrown 0 = .ok (.aload_n 0, 1) := by decide +kernel
theorem dX5_thrown_1 : decode cX5_thrown 1 = .ok (.getfield 59, 3) := by decide +kernel
theorem dX5_thrown_4 : decode cX5_thrown 4 = .ok (.ireturn, 1) := by decide +kernel
theorem dX5_isPolygon_0 : decode cX5_isPolygon 0 = .ok (.iload_n 0, 1) := by decide +kernel
theorem dX5_isPolygon_1 : decode cX5_isPolygon 1 = .ok (.ifCond .eq 8, 3) := by decide +kernel
theorem dX5_isPolygon_4 : decode cX5_isPolygon 4 = .ok (.iload_n 0, 1) := by decide +kernel
theorem dX5_isPolygon_5 : decode cX5_isPolygon 5 = .ok (.iconst 1, 1) := by decide +kernel
theorem dX5_isPolygon_6 : decode cX5_isPolygon 6 = .ok (.if_icmp .ne 7, 3) := by decide +kernel
theorem dX5_isPolygon_9 : decode cX5_isPolygon 9 = .ok (.iconst 1, 1) := by decide +kernel
theorem dX5_isPolygon_10 : decode cX5_isPolygon 10 = .ok (.goto 4, 3) := by decide +kernel
theorem dX5_isPolygon_13 : decode cX5_isPolygon 13 = .ok (.iconst 0, 1) := by decide +kernel
theorem dX5_isPolygon_14 : decode cX5_isPolygon 14 = .ok (.ireturn, 1) := by decide +kernel
set_option maxRecDepth 20000 in
theorem ggX5_vertex_X5_isPolygon : GoodIn wsX5_vertex wsX5_isPolygon := goodIn_r _ [8] (by decide +kernel) (by decide +kernel)
set_option maxRecDepth 20000 in
theorem gX5_vertex_X5_isPolygon : GoodIn wsX5_vertex (va_wsS RX5 63 yX5_isPolygon wsX5_isPolygon) := goodIn_app (goodIn_of _ (by decide +kernel)) ggX5_vertex_X5_isPolygon
theorem dX5_vertex_0 : decode cX5_vertex 0 = .ok (.iload_n 1, 1) := by decide +kernel
theorem dX5_vertex_1 : decode cX5_vertex 1 = .ok (.invokestatic 63, 3) := by decide +kernel
theorem dX5_vertex_4 : decode cX5_vertex 4 = .ok (.ifCond .eq 31, 3) := by decide +kernel
theorem dX5_vertex_7 : decode cX5_vertex 7 = .ok (.iload_n 2, 1) := by decide +kernel
theorem dX5_vertex_8 : decode cX5_vertex 8 = .ok (.bipush (-30), 2) := by decide +kernel
theorem dX5_vertex_10 : decode cX5_vertex 10 = .ok (.if_icmp .lt 25, 3) := by decide +kernel
theorem dX5_vertex_13 : decode cX5_vertex 13 = .ok (.iload_n 2, 1) := by decide +kernel
theorem dX5_vertex_14 : decode cX5_vertex 14 = .ok (.bipush 30, 2) := by decide +kernel
theorem dX5_vertex_16 : decode cX5_vertex 16 = .ok (.if_icmp .gt 19, 3) := by decide +kernel
theorem dX5_vertex_19 : decode cX5_vertex 19 = .ok (.iload_n 3, 1) := by decide +kernel
theorem dX5_vertex_20 : decode cX5_vertex 20 = .ok (.bipush (-30), 2) := by decide +kernel
theorem dX5_vertex_22 : decode cX5_vertex 22 = .ok (.if_icmp .lt 13, 3) := by decide +kernel
theorem dX5_vertex_25 : decode cX5_vertex 25 = .ok (.iload_n 3, 1) := by decide +kernel
theorem dX5_vertex_26 : decode cX5_vertex 26 = .ok (.bipush 30, 2) := by decide +kernel
theorem dX5_vertex_28 : decode cX5_vertex 28 = .ok (.if_icmp .gt 7, 3) := by decide +kernel
theorem dX5_vertex_31 : decode cX5_vertex 31 = .ok (.iconst 1, 1) := by decide +kernel
theorem dX5_vertex_32 : decode cX5_vertex 32 = .ok (.goto 4, 3) := by decide +kernel
theorem dX5_vertex_35 : decode cX5_vertex 35 = .ok (.iconst 0, 1) := by decide +kernel
theorem dX5_vertex_36 : decode cX5_vertex 36 = .ok (.istore 4, 2) := by decide +kernel
theorem dX5_vertex_38 : decode cX5_vertex 38 = .ok (.aload_n 0, 1) := by decide +kernel
theorem dX5_vertex_39 : decode cX5_vertex 39 = .ok (.iload 4, 2) := by decide +kernel
theorem dX5_vertex_41 : decode cX5_vertex 41 = .ok (.ifCond .ne 7, 3) := by decide +kernel
theorem dX5_vertex_44 : decode cX5_vertex 44 = .ok (.iconst 1, 1) := by decide +kernel
theorem dX5_vertex_45 : decode cX5_vertex 45 = .ok (.goto 19, 3) := by decide +kernel
theorem dX5_vertex_48 : decode cX5_vertex 48 = .ok (.aload_n 0, 1) := by decide +kernel
theorem dX5_vertex_49 : decode cX5_vertex 49 = .ok (.getfield 7, 3) := by decide +kernel
theorem dX5_vertex_52 : decode cX5_vertex 52 = .ok (.iload_n 1, 1) := by decide +kernel
theorem dX5_vertex_53 : decode cX5_vertex 53 = .ok (.iaload, 1) := by decide +kernel
theorem dX5_vertex_54 : decode cX5_vertex 54 = .ok (.bipush 6, 2) := by decide +kernel
theorem dX5_vertex_56 : decode cX5_vertex 56 = .ok (.if_icmp .ne 7, 3) := by decide +kernel
theorem dX5_vertex_59 : decode cX5_vertex 59 = .ok (.iconst 2, 1) := by decide +kernel
theorem dX5_vertex_60 : decode cX5_vertex 60 = .ok (.goto 4, 3) := by decide +kernel
theorem dX5_vertex_63 : decode cX5_vertex 63 = .ok (.iconst 0, 1) := by decide +kernel
theorem dX5_vertex_64 : decode cX5_vertex 64 = .ok (.putfield 59, 3) := by decide +kernel
theorem dX5_vertex_67 : decode cX5_vertex 67 = .ok (.aload_n 0, 1) := by decide +kernel
theorem dX5_vertex_68 : decode cX5_vertex 68 = .ok (.getfield 59, 3) := by decide +kernel
theorem dX5_vertex_71 : decode cX5_vertex 71 = .ok (.ifCond .le 5, 3) := by decide +kernel
theorem dX5_vertex_74 : decode cX5_vertex 74 = .ok (.iconst 0, 1) := by decide +kernel
theorem dX5_vertex_75 : decode cX5_vertex 75 = .ok (.ireturn, 1) := by decide +kernel
theorem dX5_vertex_76 : decode cX5_vertex 76 = .ok (.aload_n 0, 1) := by decide +kernel
theorem dX5_vertex_77 : decode cX5_vertex 77 = .ok (.getfield 13, 3) := by decide +kernel
theorem dX5_vertex_80 : decode cX5_vertex 80 = .ok (.bipush 6, 2) := by decide +kernel
theorem dX5_vertex_82 : decode cX5_vertex 82 = .ok (.iload_n 1, 1) := by decide +kernel
theorem dX5_vertex_83 : decode cX5_vertex 83 = .ok (.imul, 1) := by decide +kernel
theorem dX5_vertex_84 : decode cX5_vertex 84 = .ok (.aload_n 0, 1) := by decide +kernel
theorem dX5_vertex_85 : decode cX5_vertex 85 = .ok (.getfield 7, 3) := by decide +kernel
theorem dX5_vertex_88 : decode cX5_vertex 88 = .ok (.iload_n 1, 1) := by decide +kernel
theorem dX5_vertex_89 : decode cX5_vertex 89 = .ok (.iaload, 1) := by decide +kernel
theorem dX5_vertex_90 : decode cX5_vertex 90 = .ok (.iadd, 1) := by decide +kernel
theorem dX5_vertex_91 : decode cX5_vertex 91 = .ok (.iload_n 2, 1) := by decide +kernel
theorem dX5_vertex_92 : decode cX5_vertex 92 = .ok (.iastore, 1) := by decide +kernel
theorem dX5_vertex_93 : decode cX5_vertex 93 = .ok (.aload_n 0, 1) := by decide +kernel
theorem dX5_vertex_94 : decode cX5_vertex 94 = .ok (.getfield 16, 3) := by decide +kernel
theorem dX5_vertex_97 : decode cX5_vertex 97 = .ok (.bipush 6, 2) := by decide +kernel
theorem dX5_vertex_99 : decode cX5_vertex 99 = .ok (.iload_n 1, 1) := by decide +kernel
theorem dX5_vertex_100 : decode cX5_vertex 100 = .ok (.imul, 1) := by decide +kernel
theorem dX5_vertex_101 : decode cX5_vertex 101 = .ok (.aload_n 0, 1) := by decide +kernel
theorem dX5_vertex_102 : decode cX5_vertex 102 = .ok (.getfield 7, 3) := by decide +kernel
theorem dX5_vertex_105 : decode cX5_vertex 105 = .ok (.iload_n 1, 1) := by decide +kernel
theorem dX5_vertex_106 : decode cX5_vertex 106 = .ok (.iaload, 1) := by decide +kernel
theorem dX5_vertex_107 : decode cX5_vertex 107 = .ok (.iadd, 1) := by decide +kernel
theorem dX5_vertex_108 : decode cX5_vertex 108 = .ok (.iload_n 3, 1) := by decide +kernel
theorem dX5_vertex_109 : decode cX5_vertex 109 = .ok (.iastore, 1) := by decide +kernel
theorem dX5_vertex_110 : decode cX5_vertex 110 = .ok (.aload_n 0, 1) := by decide +kernel
theorem dX5_vertex_111 : decode cX5_vertex 111 = .ok (.getfield 7, 3) := by decide +kernel
theorem dX5_vertex_114 : decode cX5_vertex 114 = .ok (.iload_n 1, 1) := by decide +kernel
theorem dX5_vertex_115 : decode cX5_vertex 115 = .ok (.dup2, 1) := by decide +kernel
theorem dX5_vertex_116 : decode cX5_vertex 116 = .ok (.iaload, 1) := by decide +kernel
theorem dX5_vertex_117 : decode cX5_vertex 117 = .ok (.iconst 1, 1) := by decide +kernel
theorem dX5_vertex_118 : decode cX5_vertex 118 = .ok (.iadd, 1) := by decide +kernel
theorem dX5_vertex_119 : decode cX5_vertex 119 = .ok (.iastore, 1) := by decide +kernel
theorem dX5_vertex_120 : decode cX5_vertex 120 = .ok (.aload_n 0, 1) := by decide +kernel
theorem dX5_vertex_121 : decode cX5_vertex 121 = .ok (.getfield 7, 3) := by decide +kernel
theorem dX5_vertex_124 : decode cX5_vertex 124 = .ok (.iload_n 1, 1) := by decide +kernel
theorem dX5_vertex_125 : decode cX5_vertex 125 = .ok (.iaload, 1) := by decide +kernel
theorem dX5_vertex_126 : decode cX5_vertex 126 = .ok (.ireturn, 1) := by decide +kernel
set_option maxRecDepth 20000 in
theorem ggX5_clear_X5_isPolygon : GoodIn wsX5_clear wsX5_isPolygon := goodIn_r _ [6] (by decide +kernel) (by decide +kernel)
set_option maxRecDepth 20000 in
theorem gX5_clear_X5_isPolygon : GoodIn wsX5_clear (va_wsS RX5 63 yX5_isPolygon wsX5_isPolygon) := goodIn_app (goodIn_of _ (by decide +kernel)) ggX5_clear_X5_isPolygon
theorem dX5_clear_0 : decode cX5_clear 0 = .ok (.aload_n 0, 1) := by decide +kernel
theorem dX5_clear_1 : decode cX5_clear 1 = .ok (.iload_n 1, 1) := by decide +kernel
theorem dX5_clear_2 : decode cX5_clear 2 = .ok (.invokestatic 63, 3) := by decide +kernel
theorem dX5_clear_5 : decode cX5_clear 5 = .ok (.ifCond .eq 7, 3) := by decide +kernel
theorem dX5_clear_8 : decode cX5_clear 8 = .ok (.iconst 0, 1) := by decide +kernel
theorem dX5_clear_9 : decode cX5_clear 9 = .ok (.goto 4, 3) := by decide +kernel
theorem dX5_clear_12 : decode cX5_clear 12 = .ok (.iconst 1, 1) := by decide +kernel
theorem dX5_clear_13 : decode cX5_clear 13 = .ok (.putfield 59, 3) := by decide +kernel
theorem dX5_clear_16 : decode cX5_clear 16 = .ok (.aload_n 0, 1) := by decide +kernel
theorem dX5_clear_17 : decode cX5_clear 17 = .ok (.getfield 59, 3) := by decide +kernel
theorem dX5_clear_20 : decode cX5_clear 20 = .ok (.ifCond .le 5, 3) := by decide +kernel
theorem dX5_clear_23 : decode cX5_clear 23 = .ok (.iconst 0, 1) := by decide +kernel
theorem dX5_clear_24 : decode cX5_clear 24 = .ok (.ireturn, 1) := by decide +kernel
theorem dX5_clear_25 : decode cX5_clear 25 = .ok (.aload_n 0, 1) := by decide +kernel
theorem dX5_clear_26 : decode cX5_clear 26 = .ok (.getfield 7, 3) := by decide +kernel
theorem dX5_clear_29 : decode cX5_clear 29 = .ok (.iload_n 1, 1) := by decide +kernel
theorem dX5_clear_30 : decode cX5_clear 30 = .ok (.iaload, 1) := by decide +kernel
theorem dX5_clear_31 : decode cX5_clear 31 = .ok (.istore_n 2, 1) := by decide +kernel
theorem dX5_clear_32 : decode cX5_clear 32 = .ok (.aload_n 0, 1) := by decide +kernel
theorem dX5_clear_33 : decode cX5_clear 33 = .ok (.getfield 7, 3) := by decide +kernel
theorem dX5_clear_36 : decode cX5_clear 36 = .ok (.iload_n 1, 1) := by decide +kernel
theorem dX5_clear_37 : decode cX5_clear 37 = .ok (.iconst 0, 1) := by decide +kernel
theorem dX5_clear_38 : decode cX5_clear 38 = .ok (.iastore, 1) := by decide +kernel
theorem dX5_clear_39 : decode cX5_clear 39 = .ok (.iload_n 2, 1) := by decide +kernel
theorem dX5_clear_40 : decode cX5_clear 40 = .ok (.ireturn, 1) := by decide +kernel
theorem dX5_order_0 : decode cX5_order 0 = .ok (.lload_n 0, 1) := by decide +kernel
theorem dX5_order_1 : decode cX5_order 1 = .ok (.lload 10, 2) := by decide +kernel
theorem dX5_order_3 : decode cX5_order 3 = .ok (.lmul, 1) := by decide +kernel
theorem dX5_order_4 : decode cX5_order 4 = .ok (.lload 6, 2) := by decide +kernel
theorem dX5_order_6 : decode cX5_order 6 = .ok (.lload 4, 2) := by decide +kernel
theorem dX5_order_8 : decode cX5_order 8 = .ok (.lmul, 1) := by decide +kernel
theorem dX5_order_9 : decode cX5_order 9 = .ok (.lsub, 1) := by decide +kernel
theorem dX5_order_10 : decode cX5_order 10 = .ok (.lstore 12, 2) := by decide +kernel
theorem dX5_order_12 : decode cX5_order 12 = .ok (.lload_n 2, 1) := by decide +kernel
theorem dX5_order_13 : decode cX5_order 13 = .ok (.lload 10, 2) := by decide +kernel
theorem dX5_order_15 : decode cX5_order 15 = .ok (.lmul, 1) := by decide +kernel
theorem dX5_order_16 : decode cX5_order 16 = .ok (.lload 8, 2) := by decide +kernel
theorem dX5_order_18 : decode cX5_order 18 = .ok (.lload 4, 2) := by decide +kernel
theorem dX5_order_20 : decode cX5_order 20 = .ok (.lmul, 1) := by decide +kernel
theorem dX5_order_21 : decode cX5_order 21 = .ok (.lsub, 1) := by decide +kernel
theorem dX5_order_22 : decode cX5_order 22 = .ok (.lstore 14, 2) := by decide +kernel
theorem dX5_order_24 : decode cX5_order 24 = .ok (.lload 12, 2) := by decide +kernel
theorem dX5_order_26 : decode cX5_order 26 = .ok (.lconst 0, 1) := by decide +kernel
theorem dX5_order_27 : decode cX5_order 27 = .ok (.lcmp, 1) := by decide +kernel
theorem dX5_order_28 : decode cX5_order 28 = .ok (.ifCond .eq 18, 3) := by decide +kernel
theorem dX5_order_31 : decode cX5_order 31 = .ok (.lload 12, 2) := by decide +kernel
theorem dX5_order_33 : decode cX5_order 33 = .ok (.lconst 0, 1) := by decide +kernel
theorem dX5_order_34 : decode cX5_order 34 = .ok (.lcmp, 1) := by decide +kernel
theorem dX5_order_35 : decode cX5_order 35 = .ok (.ifCond .ge 7, 3) := by decide +kernel
theorem dX5_order_38 : decode cX5_order 38 = .ok (.iconst (-1), 1) := by decide +kernel
theorem dX5_order_39 : decode cX5_order 39 = .ok (.goto 30, 3) := by decide +kernel
theorem dX5_order_42 : decode cX5_order 42 = .ok (.iconst 1, 1) := by decide +kernel
theorem dX5_order_43 : decode cX5_order 43 = .ok (.goto 26, 3) := by decide +kernel
theorem dX5_order_46 : decode cX5_order 46 = .ok (.lload 14, 2) := by decide +kernel
theorem dX5_order_48 : decode cX5_order 48 = .ok (.lconst 0, 1) := by decide +kernel
theorem dX5_order_49 : decode cX5_order 49 = .ok (.lcmp, 1) := by decide +kernel
theorem dX5_order_50 : decode cX5_order 50 = .ok (.ifCond .ne 7, 3) := by decide +kernel
theorem dX5_order_53 : decode cX5_order 53 = .ok (.iconst 0, 1) := by decide +kernel
theorem dX5_order_54 : decode cX5_order 54 = .ok (.goto 15, 3) := by decide +kernel
theorem dX5_order_57 : decode cX5_order 57 = .ok (.lload 14, 2) := by decide +kernel
theorem dX5_order_59 : decode cX5_order 59 = .ok (.lconst 0, 1) := by decide +kernel
theorem dX5_order_60 : decode cX5_order 60 = .ok (.lcmp, 1) := by decide +kernel
theorem dX5_order_61 : decode cX5_order 61 = .ok (.ifCond .ge 7, 3) := by decide +kernel
theorem dX5_order_64 : decode cX5_order 64 = .ok (.iconst (-1), 1) := by decide +kernel
theorem dX5_order_65 : decode cX5_order 65 = .ok (.goto 4, 3) := by decide +kernel
theorem dX5_order_68 : decode cX5_order 68 = .ok (.iconst 1, 1) := by decide +kernel
theorem dX5_order_69 : decode cX5_order 69 = .ok (.ireturn, 1) := by decide +kernel
theorem dX5_gcd_0 : decode cX5_gcd 0 = .ok (.lload_n 0, 1) := by decide +kernel
theorem dX5_gcd_1 : decode cX5_gcd 1 = .ok (.lconst 0, 1) := by decide +kernel
theorem dX5_gcd_2 : decode cX5_gcd 2 = .ok (.lcmp, 1) := by decide +kernel
theorem dX5_gcd_3 : decode cX5_gcd 3 = .ok (.ifCond .ge 8, 3) := by decide +kernel
theorem dX5_gcd_6 : decode cX5_gcd 6 = .ok (.lload_n 0, 1) := by decide +kernel
theorem dX5_gcd_7 : decode cX5_gcd 7 = .ok (.lneg, 1) := by decide +kernel
theorem dX5_gcd_8 : decode cX5_gcd 8 = .ok (.goto 4, 3) := by decide +kernel
theorem dX5_gcd_11 : decode cX5_gcd 11 = .ok (.lload_n 0, 1) := by decide +kernel
theorem dX5_gcd_12 : decode cX5_gcd 12 = .ok (.lstore 4, 2) := by decide +kernel
theorem dX5_gcd_14 : decode cX5_gcd 14 = .ok (.lload_n 2, 1) := by decide +kernel
theorem dX5_gcd_15 : decode cX5_gcd 15 = .ok (.lconst 0, 1) := by decide +kernel
theorem dX5_gcd_16 : decode cX5_gcd 16 = .ok (.lcmp, 1) := by decide +kernel
theorem dX5_gcd_17 : decode cX5_gcd 17 = .ok (.ifCond .ge 8, 3) := by decide +kernel
theorem dX5_gcd_20 : decode cX5_gcd 20 = .ok (.lload_n 2, 1) := by decide +kernel
theorem dX5_gcd_21 : decode cX5_gcd 21 = .ok (.lneg, 1) := by decide +kernel
theorem dX5_gcd_22 : decode cX5_gcd 22 = .ok (.goto 4, 3) := by decide +kernel
theorem dX5_gcd_25 : decode cX5_gcd 25 = .ok (.lload_n 2, 1) := by decide +kernel
theorem dX5_gcd_26 : decode cX5_gcd 26 = .ok (.lstore 6, 2) := by decide +kernel
theorem dX5_gcd_28 : decode cX5_gcd 28 = .ok (.lload 6, 2) := by decide +kernel
theorem dX5_gcd_30 : decode cX5_gcd 30 = .ok (.lconst 0, 1) := by decide +kernel
theorem dX5_gcd_31 : decode cX5_gcd 31 = .ok (.lcmp, 1) := by decide +kernel
theorem dX5_gcd_32 : decode cX5_gcd 32 = .ok (.ifCond .eq 21, 3) := by decide +kernel
theorem dX5_gcd_35 : decode cX5_gcd 35 = .ok (.lload 4, 2) := by decide +kernel
theorem dX5_gcd_37 : decode cX5_gcd 37 = .ok (.lload 6, 2) := by decide +kernel
theorem dX5_gcd_39 : decode cX5_gcd 39 = .ok (.lrem, 1) := by decide +kernel
theorem dX5_gcd_40 : decode cX5_gcd 40 = .ok (.lstore 8, 2) := by decide +kernel
theorem dX5_gcd_42 : decode cX5_gcd 42 = .ok (.lload 6, 2) := by decide +kernel
theorem dX5_gcd_44 : decode cX5_gcd 44 = .ok (.lstore 4, 2) := by decide +kernel
theorem dX5_gcd_46 : decode cX5_gcd 46 = .ok (.lload 8, 2) := by decide +kernel
theorem dX5_gcd_48 : decode cX5_gcd 48 = .ok (.lstore 6, 2) := by decide +kernel
theorem dX5_gcd_50 : decode cX5_gcd 50 = .ok (.goto (-22), 3) := by decide +kernel
theorem dX5_gcd_53 : decode cX5_gcd 53 = .ok (.lload 4, 2) := by decide +kernel
theorem dX5_gcd_55 : decode cX5_gcd 55 = .ok (.lreturn, 1) := by decide +kernel
set_option maxRecDepth 20000 in
theorem ggX5_find_X5_order : GoodIn wsX5_find wsX5_order := goodIn_r _ [11] (by decide +kernel) (by decide +kernel)
set_option maxRecDepth 20000 in
theorem gX5_find_X5_order : GoodIn wsX5_find (va_wsS RX5 80 yX5_order wsX5_order) := goodIn_app (goodIn_of _ (by decide +kernel)) ggX5_find_X5_order
theorem dX5_find_0 : decode cX5_find 0 = .ok (.iconst 0, 1) := by decide +kernel
theorem dX5_find_1 : decode cX5_find 1 = .ok (.istore_n 1, 1) := by decide +kernel
theorem dX5_find_2 : decode cX5_find 2 = .ok (.iload_n 1, 1) := by decide +kernel
theorem dX5_find_3 : decode cX5_find 3 = .ok (.aload_n 0, 1) := by decide +kernel
theorem dX5_find_4 : decode cX5_find 4 = .ok (.getfield 67, 3) := by decide +kernel
theorem dX5_find_7 : decode cX5_find 7 = .ok (.if_icmp .ge 62, 3) := by decide +kernel
theorem dX5_find_10 : decode cX5_find 10 = .ok (.aload_n 0, 1) := by decide +kernel
theorem dX5_find_11 : decode cX5_find 11 = .ok (.getfield 34, 3) := by decide +kernel
theorem dX5_find_14 : decode cX5_find 14 = .ok (.iload_n 1, 1) := by decide +kernel
theorem dX5_find_15 : decode cX5_find 15 = .ok (.iaload, 1) := by decide +kernel
theorem dX5_find_16 : decode cX5_find 16 = .ok (.i2l, 1) := by decide +kernel
theorem dX5_find_17 : decode cX5_find 17 = .ok (.aload_n 0, 1) := by decide +kernel
theorem dX5_find_18 : decode cX5_find 18 = .ok (.getfield 37, 3) := by decide +kernel
theorem dX5_find_21 : decode cX5_find 21 = .ok (.iload_n 1, 1) := by decide +kernel
theorem dX5_find_22 : decode cX5_find 22 = .ok (.iaload, 1) := by decide +kernel
theorem dX5_find_23 : decode cX5_find 23 = .ok (.i2l, 1) := by decide +kernel
theorem dX5_find_24 : decode cX5_find 24 = .ok (.aload_n 0, 1) := by decide +kernel
theorem dX5_find_25 : decode cX5_find 25 = .ok (.getfield 40, 3) := by decide +kernel
theorem dX5_find_28 : decode cX5_find 28 = .ok (.iload_n 1, 1) := by decide +kernel
theorem dX5_find_29 : decode cX5_find 29 = .ok (.iaload, 1) := by decide +kernel
theorem dX5_find_30 : decode cX5_find 30 = .ok (.i2l, 1) := by decide +kernel
theorem dX5_find_31 : decode cX5_find 31 = .ok (.aload_n 0, 1) := by decide +kernel
theorem dX5_find_32 : decode cX5_find 32 = .ok (.getfield 70, 3) := by decide +kernel
theorem dX5_find_35 : decode cX5_find 35 = .ok (.aload_n 0, 1) := by decide +kernel
theorem dX5_find_36 : decode cX5_find 36 = .ok (.getfield 74, 3) := by decide +kernel
theorem dX5_find_39 : decode cX5_find 39 = .ok (.aload_n 0, 1) := by decide +kernel
theorem dX5_find_40 : decode cX5_find 40 = .ok (.getfield 77, 3) := by decide +kernel
theorem dX5_find_43 : decode cX5_find 43 = .ok (.invokestatic 80, 3) := by decide +kernel
theorem dX5_find_46 : decode cX5_find 46 = .ok (.istore_n 2, 1) := by decide +kernel
theorem dX5_find_47 : decode cX5_find 47 = .ok (.iload_n 2, 1) := by decide +kernel
theorem dX5_find_48 : decode cX5_find 48 = .ok (.ifCond .lt 15, 3) := by decide +kernel
theorem dX5_find_51 : decode cX5_find 51 = .ok (.iload_n 2, 1) := by decide +kernel
theorem dX5_find_52 : decode cX5_find 52 = .ok (.ifCond .ne 7, 3) := by decide +kernel
theorem dX5_find_55 : decode cX5_find 55 = .ok (.iload_n 1, 1) := by decide +kernel
theorem dX5_find_56 : decode cX5_find 56 = .ok (.goto 6, 3) := by decide +kernel
theorem dX5_find_59 : decode cX5_find 59 = .ok (.iconst (-1), 1) := by decide +kernel
theorem dX5_find_60 : decode cX5_find 60 = .ok (.iload_n 1, 1) := by decide +kernel
theorem dX5_find_61 : decode cX5_find 61 = .ok (.isub, 1) := by decide +kernel
theorem dX5_find_62 : decode cX5_find 62 = .ok (.ireturn, 1) := by decide +kernel
theorem dX5_find_63 : decode cX5_find 63 = .ok (.iinc 1 1, 3) := by decide +kernel
theorem dX5_find_66 : decode cX5_find 66 = .ok (.goto (-64), 3) := by decide +kernel
theorem dX5_find_69 : decode cX5_find 69 = .ok (.iconst (-1), 1) := by decide +kernel
theorem dX5_find_70 : decode cX5_find 70 = .ok (.aload_n 0, 1) := by decide +kernel
theorem dX5_find_71 : decode cX5_find 71 = .ok (.getfield 67, 3) := by decide +kernel
theorem dX5_find_74 : decode cX5_find 74 = .ok (.isub, 1) := by decide +kernel
theorem dX5_find_75 : decode cX5_find 75 = .ok (.ireturn, 1) := by decide +kernel
set_option maxRecDepth 20000 in
theorem ggX5_addPoint_X5_gcd : GoodIn wsX5_addPoint wsX5_gcd := goodIn_r _ [11] (by decide +kernel) (by decide +kernel)
set_option maxRecDepth 20000 in
theorem gX5_addPoint_X5_gcd : GoodIn wsX5_addPoint (va_wsS RX5 84 yX5_gcd wsX5_gcd) := goodIn_app (goodIn_of _ (by decide +kernel)) ggX5_addPoint_X5_gcd
set_option maxRecDepth 20000 in
theorem ggX5_addPoint_X5_find : GoodIn wsX5_addPoint wsX5_find := goodIn_r _ [15, 4, 5, 6, 7, 1, 2, 3, 16, 17, 10, 18, 19, 20, 21, 22, 23, 24, 25, 26, 27, 28, 29, 30, 31, 32, 33, 34, 35, 36, 37, 38, 39, 40, 41, 42, 43, 44, 45] (by decide +kernel) (by decide +kernel)
set_option maxRecDepth 20000 in
theorem gX5_addPoint_X5_find : GoodIn wsX5_addPoint (wsV RX5 88 RX5 yX5_find wsX5_find) := goodIn_app (goodIn_of _ (by decide +kernel)) ggX5_addPoint_X5_find
theorem dX5_addPoint_0 : decode cX5_addPoint 0 = .ok (.aload_n 0, 1) := by decide +kernel
theorem dX5_addPoint_1 : decode cX5_addPoint 1 = .ok (.getfield 70, 3) := by decide +kernel
theorem dX5_addPoint_4 : decode cX5_addPoint 4 = .ok (.aload_n 0, 1) := by decide +kernel
theorem dX5_addPoint_5 : decode cX5_addPoint 5 = .ok (.getfield 74, 3) := by decide +kernel
theorem dX5_addPoint_8 : decode cX5_addPoint 8 = .ok (.invokestatic 84, 3) := by decide +kernel
theorem dX5_addPoint_11 : decode cX5_addPoint 11 = .ok (.lstore_n 1, 1) := by decide +kernel
theorem dX5_addPoint_12 : decode cX5_addPoint 12 = .ok (.lload_n 1, 1) := by decide +kernel
theorem dX5_addPoint_13 : decode cX5_addPoint 13 = .ok (.aload_n 0, 1) := by decide +kernel
theorem dX5_addPoint_14 : decode cX5_addPoint 14 = .ok (.getfield 77, 3) := by decide +kernel
theorem dX5_addPoint_17 : decode cX5_addPoint 17 = .ok (.invokestatic 84, 3) := by decide +kernel
theorem dX5_addPoint_20 : decode cX5_addPoint 20 = .ok (.lstore_n 1, 1) := by decide +kernel
theorem dX5_addPoint_21 : decode cX5_addPoint 21 = .ok (.aload_n 0, 1) := by decide +kernel
theorem dX5_addPoint_22 : decode cX5_addPoint 22 = .ok (.aload_n 0, 1) := by decide +kernel
theorem dX5_addPoint_23 : decode cX5_addPoint 23 = .ok (.getfield 70, 3) := by decide +kernel
theorem dX5_addPoint_26 : decode cX5_addPoint 26 = .ok (.lload_n 1, 1) := by decide +kernel
theorem dX5_addPoint_27 : decode cX5_addPoint 27 = .ok (.ldiv, 1) := by decide +kernel
theorem dX5_addPoint_28 : decode cX5_addPoint 28 = .ok (.putfield 70, 3) := by decide +kernel
theorem dX5_addPoint_31 : decode cX5_addPoint 31 = .ok (.aload_n 0, 1) := by decide +kernel
theorem dX5_addPoint_32 : decode cX5_addPoint 32 = .ok (.aload_n 0, 1) := by decide +kernel
theorem dX5_addPoint_33 : decode cX5_addPoint 33 = .ok (.getfield 74, 3) := by decide +kernel
theorem dX5_addPoint_36 : decode cX5_addPoint 36 = .ok (.lload_n 1, 1) := by decide +kernel
theorem dX5_addPoint_37 : decode cX5_addPoint 37 = .ok (.ldiv, 1) := by decide +kernel
theorem dX5_addPoint_38 : decode cX5_addPoint 38 = .ok (.putfield 74, 3) := by decide +kernel
theorem dX5_addPoint_41 : decode cX5_addPoint 41 = .ok (.aload_n 0, 1) := by decide +kernel
theorem dX5_addPoint_42 : decode cX5_addPoint 42 = .ok (.aload_n 0, 1) := by decide +kernel
theorem dX5_addPoint_43 : decode cX5_addPoint 43 = .ok (.getfield 77, 3) := by decide +kernel
theorem dX5_addPoint_46 : decode cX5_addPoint 46 = .ok (.lload_n 1, 1) := by decide +kernel
theorem dX5_addPoint_47 : decode cX5_addPoint 47 = .ok (.ldiv, 1) := by decide +kernel
theorem dX5_addPoint_48 : decode cX5_addPoint 48 = .ok (.putfield 77, 3) := by decide +kernel
theorem dX5_addPoint_51 : decode cX5_addPoint 51 = .ok (.aload_n 0, 1) := by decide +kernel
theorem dX5_addPoint_52 : decode cX5_addPoint 52 = .ok (.invokevirtual 88, 3) := by decide +kernel
theorem dX5_addPoint_55 : decode cX5_addPoint 55 = .ok (.istore_n 3, 1) := by decide +kernel
theorem dX5_addPoint_56 : decode cX5_addPoint 56 = .ok (.iload_n 3, 1) := by decide +kernel
theorem dX5_addPoint_57 : decode cX5_addPoint 57 = .ok (.ifCond .lt 4, 3) := by decide +kernel
theorem dX5_addPoint_60 : decode cX5_addPoint 60 = .ok (.return_, 1) := by decide +kernel
theorem dX5_addPoint_61 : decode cX5_addPoint 61 = .ok (.iconst (-1), 1) := by decide +kernel
theorem dX5_addPoint_62 : decode cX5_addPoint 62 = .ok (.iload_n 3, 1) := by decide +kernel
theorem dX5_addPoint_63 : decode cX5_addPoint 63 = .ok (.isub, 1) := by decide +kernel
theorem dX5_addPoint_64 : decode cX5_addPoint 64 = .ok (.istore 4, 2) := by decide +kernel
theorem dX5_addPoint_66 : decode cX5_addPoint 66 = .ok (.aload_n 0, 1) := by decide +kernel
theorem dX5_addPoint_67 : decode cX5_addPoint 67 = .ok (.getfield 67, 3) := by decide +kernel
theorem dX5_addPoint_70 : decode cX5_addPoint 70 = .ok (.istore 5, 2) := by decide +kernel
theorem dX5_addPoint_72 : decode cX5_addPoint 72 = .ok (.iload 5, 2) := by decide +kernel
theorem dX5_addPoint_74 : decode cX5_addPoint 74 = .ok (.iload 4, 2) := by decide +kernel
theorem dX5_addPoint_76 : decode cX5_addPoint 76 = .ok (.if_icmp .le 57, 3) := by decide +kernel
theorem dX5_addPoint_79 : decode cX5_addPoint 79 = .ok (.aload_n 0, 1) := by decide +kernel
theorem dX5_addPoint_80 : decode cX5_addPoint 80 = .ok (.getfield 34, 3) := by decide +kernel
theorem dX5_addPoint_83 : decode cX5_addPoint 83 = .ok (.iload 5, 2) := by decide +kernel
theorem dX5_addPoint_85 : decode cX5_addPoint 85 = .ok (.aload_n 0, 1) := by decide +kernel
theorem dX5_addPoint_86 : decode cX5_addPoint 86 = .ok (.getfield 34, 3) := by decide +kernel
theorem dX5_addPoint_89 : decode cX5_addPoint 89 = .ok (.iload 5, 2) := by decide +kernel
theorem dX5_addPoint_91 : decode cX5_addPoint 91 = .ok (.iconst 1, 1) := by decide +kernel
theorem dX5_addPoint_92 : decode cX5_addPoint 92 = .ok (.isub, 1) := by decide +kernel
theorem dX5_addPoint_93 : decode cX5_addPoint 93 = .ok (.iaload, 1) := by decide +kernel
theorem dX5_addPoint_94 : decode cX5_addPoint 94 = .ok (.iastore, 1) := by decide +kernel
theorem dX5_addPoint_95 : decode cX5_addPoint 95 = .ok (.aload_n 0, 1) := by decide +kernel
theorem dX5_addPoint_96 : decode cX5_addPoint 96 = .ok (.getfield 37, 3) := by decide +kernel
theorem dX5_addPoint_99 : decode cX5_addPoint 99 = .ok (.iload 5, 2) := by decide +kernel
theorem dX5_addPoint_101 : decode cX5_addPoint 101 = .ok (.aload_n 0, 1) := by decide +kernel
theorem dX5_addPoint_102 : decode cX5_addPoint 102 = .ok (.getfield 37, 3) := by decide +kernel
theorem dX5_addPoint_105 : decode cX5_addPoint 105 = .ok (.iload 5, 2) := by decide +kernel
theorem dX5_addPoint_107 : decode cX5_addPoint 107 = .ok (.iconst 1, 1) := by decide +kernel
theorem dX5_addPoint_108 : decode cX5_addPoint 108 = .ok (.isub, 1) := by decide +kernel
theorem dX5_addPoint_109 : decode cX5_addPoint 109 = .ok (.iaload, 1) := by decide +kernel
theorem dX5_addPoint_110 : decode cX5_addPoint 110 = .ok (.iastore, 1) := by decide +kernel
theorem dX5_addPoint_111 : decode cX5_addPoint 111 = .ok (.aload_n 0, 1) := by decide +kernel
theorem dX5_addPoint_112 : decode cX5_addPoint 112 = .ok (.getfield 40, 3) := by decide +kernel
theorem dX5_addPoint_115 : decode cX5_addPoint 115 = .ok (.iload 5, 2) := by decide +kernel
theorem dX5_addPoint_117 : decode cX5_addPoint 117 = .ok (.aload_n 0, 1) := by decide +kernel
theorem dX5_addPoint_118 : decode cX5_addPoint 118 = .ok (.getfield 40, 3) := by decide +kernel
theorem dX5_addPoint_121 : decode cX5_addPoint 121 = .ok (.iload 5, 2) := by decide +kernel
theorem dX5_addPoint_123 : decode cX5_addPoint 123 = .ok (.iconst 1, 1) := by decide +kernel
theorem dX5_addPoint_124 : decode cX5_addPoint 124 = .ok (.isub, 1) := by decide +kernel
theorem dX5_addPoint_125 : decode cX5_addPoint 125 = .ok (.iaload, 1) := by decide +kernel
theorem dX5_addPoint_126 : decode cX5_addPoint 126 = .ok (.iastore, 1) := by decide +kernel
theorem dX5_addPoint_127 : decode cX5_addPoint 127 = .ok (.iinc 5 (-1), 3) := by decide +kernel
theorem dX5_addPoint_130 : decode cX5_addPoint 130 = .ok (.goto (-58), 3) := by decide +kernel
theorem dX5_addPoint_133 : decode cX5_addPoint 133 = .ok (.aload_n 0, 1) := by decide +kernel
theorem dX5_addPoint_134 : decode cX5_addPoint 134 = .ok (.getfield 34, 3) := by decide +kernel
theorem dX5_addPoint_137 : decode cX5_addPoint 137 = .ok (.iload 4, 2) := by decide +kernel
theorem dX5_addPoint_139 : decode cX5_addPoint 139 = .ok (.aload_n 0, 1) := by decide +kernel
theorem dX5_addPoint_140 : decode cX5_addPoint 140 = .ok (.getfield 70, 3) := by decide +kernel
theorem dX5_addPoint_143 : decode cX5_addPoint 143 = .ok (.l2i, 1) := by decide +kernel
theorem dX5_addPoint_144 : decode cX5_addPoint 144 = .ok (.iastore, 1) := by decide +kernel
theorem dX5_addPoint_145 : decode cX5_addPoint 145 = .ok (.aload_n 0, 1) := by decide +kernel
theorem dX5_addPoint_146 : decode cX5_addPoint 146 = .ok (.getfield 37, 3) := by decide +kernel
theorem dX5_addPoint_149 : decode cX5_addPoint 149 = .ok (.iload 4, 2) := by decide +kernel
theorem dX5_addPoint_151 : decode cX5_addPoint 151 = .ok (.aload_n 0, 1) := by decide +kernel
theorem dX5_addPoint_152 : decode cX5_addPoint 152 = .ok (.getfield 74, 3) := by decide +kernel
theorem dX5_addPoint_155 : decode cX5_addPoint 155 = .ok (.l2i, 1) := by decide +kernel
theorem dX5_addPoint_156 : decode cX5_addPoint 156 = .ok (.iastore, 1) := by decide +kernel
theorem dX5_addPoint_157 : decode cX5_addPoint 157 = .ok (.aload_n 0, 1) := by decide +kernel
theorem dX5_addPoint_158 : decode cX5_addPoint 158 = .ok (.getfield 40, 3) := by decide +kernel
theorem dX5_addPoint_161 : decode cX5_addPoint 161 = .ok (.iload 4, 2) := by decide +kernel
theorem dX5_addPoint_163 : decode cX5_addPoint 163 = .ok (.aload_n 0, 1) := by decide +kernel
theorem dX5_addPoint_164 : decode cX5_addPoint 164 = .ok (.getfield 77, 3) := by decide +kernel
theorem dX5_addPoint_167 : decode cX5_addPoint 167 = .ok (.l2i, 1) := by decide +kernel
theorem dX5_addPoint_168 : decode cX5_addPoint 168 = .ok (.iastore, 1) := by decide +kernel
theorem dX5_addPoint_169 : decode cX5_addPoint 169 = .ok (.aload_n 0, 1) := by decide +kernel
theorem dX5_addPoint_170 : decode cX5_addPoint 170 = .ok (.dup, 1) := by decide +kernel
theorem dX5_addPoint_171 : decode cX5_addPoint 171 = .ok (.getfield 67, 3) := by decide +kernel
theorem dX5_addPoint_174 : decode cX5_addPoint 174 = .ok (.iconst 1, 1) := by decide +kernel
theorem dX5_addPoint_175 : decode cX5_addPoint 175 = .ok (.iadd, 1) := by decide +kernel
theorem dX5_addPoint_176 : decode cX5_addPoint 176 = .ok (.putfield 67, 3) := by decide +kernel
theorem dX5_addPoint_179 : decode cX5_addPoint 179 = .ok (.return_, 1) := by decide +kernel
theorem dX5_addEdge_0 : decode cX5_addEdge 0 = .ok (.aload_n 0, 1) := by decide +kernel
theorem dX5_addEdge_1 : decode cX5_addEdge 1 = .ok (.getfield 13, 3) := by decide +kernel
theorem dX5_addEdge_4 : decode cX5_addEdge 4 = .ok (.iload_n 2, 1) := by decide +kernel
theorem dX5_addEdge_5 : decode cX5_addEdge 5 = .ok (.iaload, 1) := by decide +kernel
theorem dX5_addEdge_6 : decode cX5_addEdge 6 = .ok (.istore 4, 2) := by decide +kernel
theorem dX5_addEdge_8 : decode cX5_addEdge 8 = .ok (.aload_n 0, 1) := by decide +kernel
theorem dX5_addEdge_9 : decode cX5_addEdge 9 = .ok (.getfield 16, 3) := by decide +kernel
theorem dX5_addEdge_12 : decode cX5_addEdge 12 = .ok (.iload_n 2, 1) := by decide +kernel
theorem dX5_addEdge_13 : decode cX5_addEdge 13 = .ok (.iaload, 1) := by decide +kernel
theorem dX5_addEdge_14 : decode cX5_addEdge 14 = .ok (.istore 5, 2) := by decide +kernel
theorem dX5_addEdge_16 : decode cX5_addEdge 16 = .ok (.aload_n 0, 1) := by decide +kernel
theorem dX5_addEdge_17 : decode cX5_addEdge 17 = .ok (.getfield 13, 3) := by decide +kernel
theorem dX5_addEdge_20 : decode cX5_addEdge 20 = .ok (.iload_n 3, 1) := by decide +kernel
theorem dX5_addEdge_21 : decode cX5_addEdge 21 = .ok (.iaload, 1) := by decide +kernel
theorem dX5_addEdge_22 : decode cX5_addEdge 22 = .ok (.istore 6, 2) := by decide +kernel
theorem dX5_addEdge_24 : decode cX5_addEdge 24 = .ok (.aload_n 0, 1) := by decide +kernel
theorem dX5_addEdge_25 : decode cX5_addEdge 25 = .ok (.getfield 16, 3) := by decide +kernel
theorem dX5_addEdge_28 : decode cX5_addEdge 28 = .ok (.iload_n 3, 1) := by decide +kernel
theorem dX5_addEdge_29 : decode cX5_addEdge 29 = .ok (.iaload, 1) := by decide +kernel
theorem dX5_addEdge_30 : decode cX5_addEdge 30 = .ok (.istore 7, 2) := by decide +kernel
theorem dX5_addEdge_32 : decode cX5_addEdge 32 = .ok (.iload 4, 2) := by decide +kernel
theorem dX5_addEdge_34 : decode cX5_addEdge 34 = .ok (.iload 6, 2) := by decide +kernel
theorem dX5_addEdge_36 : decode cX5_addEdge 36 = .ok (.if_icmp .ne 11, 3) := by decide +kernel
theorem dX5_addEdge_39 : decode cX5_addEdge 39 = .ok (.iload 5, 2) := by decide +kernel
theorem dX5_addEdge_41 : decode cX5_addEdge 41 = .ok (.iload 7, 2) := by decide +kernel
theorem dX5_addEdge_43 : decode cX5_addEdge 43 = .ok (.if_icmp .ne 4, 3) := by decide +kernel
theorem dX5_addEdge_46 : decode cX5_addEdge 46 = .ok (.return_, 1) := by decide +kernel
theorem dX5_addEdge_47 : decode cX5_addEdge 47 = .ok (.iload 4, 2) := by decide +kernel
theorem dX5_addEdge_49 : decode cX5_addEdge 49 = .ok (.iload 6, 2) := by decide +kernel
theorem dX5_addEdge_51 : decode cX5_addEdge 51 = .ok (.if_icmp .lt 17, 3) := by decide +kernel
theorem dX5_addEdge_54 : decode cX5_addEdge 54 = .ok (.iload 4, 2) := by decide +kernel
theorem dX5_addEdge_56 : decode cX5_addEdge 56 = .ok (.iload 6, 2) := by decide +kernel
theorem dX5_addEdge_58 : decode cX5_addEdge 58 = .ok (.if_icmp .ne 14, 3) := by decide +kernel
theorem dX5_addEdge_61 : decode cX5_addEdge 61 = .ok (.iload 5, 2) := by decide +kernel
theorem dX5_addEdge_63 : decode cX5_addEdge 63 = .ok (.iload 7, 2) := by decide +kernel
theorem dX5_addEdge_65 : decode cX5_addEdge 65 = .ok (.if_icmp .ge 7, 3) := by decide +kernel
theorem dX5_addEdge_68 : decode cX5_addEdge 68 = .ok (.iconst 1, 1) := by decide +kernel
theorem dX5_addEdge_69 : decode cX5_addEdge 69 = .ok (.goto 4, 3) := by decide +kernel
theorem dX5_addEdge_72 : decode cX5_addEdge 72 = .ok (.iconst 0, 1) := by decide +kernel
theorem dX5_addEdge_73 : decode cX5_addEdge 73 = .ok (.istore 8, 2) := by decide +kernel
theorem dX5_addEdge_75 : decode cX5_addEdge 75 = .ok (.aload_n 0, 1) := by decide +kernel
theorem dX5_addEdge_76 : decode cX5_addEdge 76 = .ok (.getfield 19, 3) := by decide +kernel
theorem dX5_addEdge_79 : decode cX5_addEdge 79 = .ok (.aload_n 0, 1) := by decide +kernel
theorem dX5_addEdge_80 : decode cX5_addEdge 80 = .ok (.getfield 92, 3) := by decide +kernel
theorem dX5_addEdge_83 : decode cX5_addEdge 83 = .ok (.iload 8, 2) := by decide +kernel
theorem dX5_addEdge_85 : decode cX5_addEdge 85 = .ok (.ifCond .eq 8, 3) := by decide +kernel
theorem dX5_addEdge_88 : decode cX5_addEdge 88 = .ok (.iload 4, 2) := by decide +kernel
theorem dX5_addEdge_90 : decode cX5_addEdge 90 = .ok (.goto 5, 3) := by decide +kernel
theorem dX5_addEdge_93 : decode cX5_addEdge 93 = .ok (.iload 6, 2) := by decide +kernel
theorem dX5_addEdge_95 : decode cX5_addEdge 95 = .ok (.iastore, 1) := by decide +kernel
theorem dX5_addEdge_96 : decode cX5_addEdge 96 = .ok (.aload_n 0, 1) := by decide +kernel
theorem dX5_addEdge_97 : decode cX5_addEdge 97 = .ok (.getfield 22, 3) := by decide +kernel
theorem dX5_addEdge_100 : decode cX5_addEdge 100 = .ok (.aload_n 0, 1) := by decide +kernel
theorem dX5_addEdge_101 : decode cX5_addEdge 101 = .ok (.getfield 92, 3) := by decide +kernel
theorem dX5_addEdge_104 : decode cX5_addEdge 104 = .ok (.iload 8, 2) := by decide +kernel
theorem dX5_addEdge_106 : decode cX5_addEdge 106 = .ok (.ifCond .eq 8, 3) := by decide +kernel
theorem dX5_addEdge_109 : decode cX5_addEdge 109 = .ok (.iload 5, 2) := by decide +kernel
theorem dX5_addEdge_111 : decode cX5_addEdge 111 = .ok (.goto 5, 3) := by decide +kernel
theorem dX5_addEdge_114 : decode cX5_addEdge 114 = .ok (.iload 7, 2) := by decide +kernel
theorem dX5_addEdge_116 : decode cX5_addEdge 116 = .ok (.iastore, 1) := by decide +kernel
theorem dX5_addEdge_117 : decode cX5_addEdge 117 = .ok (.aload_n 0, 1) := by decide +kernel
theorem dX5_addEdge_118 : decode cX5_addEdge 118 = .ok (.getfield 25, 3) := by decide +kernel
theorem dX5_addEdge_121 : decode cX5_addEdge 121 = .ok (.aload_n 0, 1) := by decide +kernel
theorem dX5_addEdge_122 : decode cX5_addEdge 122 = .ok (.getfield 92, 3) := by decide +kernel
theorem dX5_addEdge_125 : decode cX5_addEdge 125 = .ok (.iload 8, 2) := by decide +kernel
theorem dX5_addEdge_127 : decode cX5_addEdge 127 = .ok (.ifCond .eq 8, 3) := by decide +kernel
theorem dX5_addEdge_130 : decode cX5_addEdge 130 = .ok (.iload 6, 2) := by decide +kernel
theorem dX5_addEdge_132 : decode cX5_addEdge 132 = .ok (.goto 5, 3) := by decide +kernel
theorem dX5_addEdge_135 : decode cX5_addEdge 135 = .ok (.iload 4, 2) := by decide +kernel
theorem dX5_addEdge_137 : decode cX5_addEdge 137 = .ok (.iastore, 1) := by decide +kernel
theorem dX5_addEdge_138 : decode cX5_addEdge 138 = .ok (.aload_n 0, 1) := by decide +kernel
theorem dX5_addEdge_139 : decode cX5_addEdge 139 = .ok (.getfield 28, 3) := by decide +kernel
theorem dX5_addEdge_142 : decode cX5_addEdge 142 = .ok (.aload_n 0, 1) := by decide +kernel
theorem dX5_addEdge_143 : decode cX5_addEdge 143 = .ok (.getfield 92, 3) := by decide +kernel
theorem dX5_addEdge_146 : decode cX5_addEdge 146 = .ok (.iload 8, 2) := by decide +kernel
theorem dX5_addEdge_148 : decode cX5_addEdge 148 = .ok (.ifCond .eq 8, 3) := by decide +kernel
theorem dX5_addEdge_151 : decode cX5_addEdge 151 = .ok (.iload 7, 2) := by decide +kernel
theorem dX5_addEdge_153 : decode cX5_addEdge 153 = .ok (.goto 5, 3) := by decide +kernel
theorem dX5_addEdge_156 : decode cX5_addEdge 156 = .ok (.iload 5, 2) := by decide +kernel
theorem dX5_addEdge_158 : decode cX5_addEdge 158 = .ok (.iastore, 1) := by decide +kernel
theorem dX5_addEdge_159 : decode cX5_addEdge 159 = .ok (.aload_n 0, 1) := by decide +kernel
theorem dX5_addEdge_160 : decode cX5_addEdge 160 = .ok (.getfield 31, 3) := by decide +kernel
theorem dX5_addEdge_163 : decode cX5_addEdge 163 = .ok (.aload_n 0, 1) := by decide +kernel
theorem dX5_addEdge_164 : decode cX5_addEdge 164 = .ok (.getfield 92, 3) := by decide +kernel
theorem dX5_addEdge_167 : decode cX5_addEdge 167 = .ok (.iload_n 1, 1) := by decide +kernel
theorem dX5_addEdge_168 : decode cX5_addEdge 168 = .ok (.iastore, 1) := by decide +kernel
theorem dX5_addEdge_169 : decode cX5_addEdge 169 = .ok (.aload_n 0, 1) := by decide +kernel
theorem dX5_addEdge_170 : decode cX5_addEdge 170 = .ok (.dup, 1) := by decide +kernel
theorem dX5_addEdge_171 : decode cX5_addEdge 171 = .ok (.getfield 92, 3) := by decide +kernel
theorem dX5_addEdge_174 : decode cX5_addEdge 174 = .ok (.iconst 1, 1) := by decide +kernel
theorem dX5_addEdge_175 : decode cX5_addEdge 175 = .ok (.iadd, 1) := by decide +kernel
theorem dX5_addEdge_176 : decode cX5_addEdge 176 = .ok (.putfield 92, 3) := by decide +kernel
theorem dX5_addEdge_179 : decode cX5_addEdge 179 = .ok (.return_, 1) := by decide +kernel
theorem dX5_side_0 : decode cX5_side 0 = .ok (.aload_n 0, 1) := by decide +kernel
theorem dX5_side_1 : decode cX5_side 1 = .ok (.getfield 25, 3) := by decide +kernel
theorem dX5_side_4 : decode cX5_side 4 = .ok (.iload_n 1, 1) := by decide +kernel
theorem dX5_side_5 : decode cX5_side 5 = .ok (.iaload, 1) := by decide +kernel
theorem dX5_side_6 : decode cX5_side 6 = .ok (.aload_n 0, 1) := by decide +kernel
theorem dX5_side_7 : decode cX5_side 7 = .ok (.getfield 19, 3) := by decide +kernel
theorem dX5_side_10 : decode cX5_side 10 = .ok (.iload_n 1, 1) := by decide +kernel
theorem dX5_side_11 : decode cX5_side 11 = .ok (.iaload, 1) := by decide +kernel
theorem dX5_side_12 : decode cX5_side 12 = .ok (.isub, 1) := by decide +kernel
theorem dX5_side_13 : decode cX5_side 13 = .ok (.i2l, 1) := by decide +kernel
theorem dX5_side_14 : decode cX5_side 14 = .ok (.lload 4, 2) := by decide +kernel
theorem dX5_side_16 : decode cX5_side 16 = .ok (.aload_n 0, 1) := by decide +kernel
theorem dX5_side_17 : decode cX5_side 17 = .ok (.getfield 22, 3) := by decide +kernel
theorem dX5_side_20 : decode cX5_side 20 = .ok (.iload_n 1, 1) := by decide +kernel
theorem dX5_side_21 : decode cX5_side 21 = .ok (.iaload, 1) := by decide +kernel
theorem dX5_side_22 : decode cX5_side 22 = .ok (.i2l, 1) := by decide +kernel
theorem dX5_side_23 : decode cX5_side 23 = .ok (.lload 6, 2) := by decide +kernel
theorem dX5_side_25 : decode cX5_side 25 = .ok (.lmul, 1) := by decide +kernel
theorem dX5_side_26 : decode cX5_side 26 = .ok (.lsub, 1) := by decide +kernel
theorem dX5_side_27 : decode cX5_side 27 = .ok (.lmul, 1) := by decide +kernel
theorem dX5_side_28 : decode cX5_side 28 = .ok (.aload_n 0, 1) := by decide +kernel
theorem dX5_side_29 : decode cX5_side 29 = .ok (.getfield 28, 3) := by decide +kernel
theorem dX5_side_32 : decode cX5_side 32 = .ok (.iload_n 1, 1) := by decide +kernel
theorem dX5_side_33 : decode cX5_side 33 = .ok (.iaload, 1) := by decide +kernel
theorem dX5_side_34 : decode cX5_side 34 = .ok (.aload_n 0, 1) := by decide +kernel
theorem dX5_side_35 : decode cX5_side 35 = .ok (.getfield 22, 3) := by decide +kernel
theorem dX5_side_38 : decode cX5_side 38 = .ok (.iload_n 1, 1) := by decide +kernel
theorem dX5_side_39 : decode cX5_side 39 = .ok (.iaload, 1) := by decide +kernel
theorem dX5_side_40 : decode cX5_side 40 = .ok (.isub, 1) := by decide +kernel
theorem dX5_side_41 : decode cX5_side 41 = .ok (.i2l, 1) := by decide +kernel
theorem dX5_side_42 : decode cX5_side 42 = .ok (.lload_n 2, 1) := by decide +kernel
theorem dX5_side_43 : decode cX5_side 43 = .ok (.aload_n 0, 1) := by decide +kernel
theorem dX5_side_44 : decode cX5_side 44 = .ok (.getfield 19, 3) := by decide +kernel
theorem dX5_side_47 : decode cX5_side 47 = .ok (.iload_n 1, 1) := by decide +kernel
theorem dX5_side_48 : decode cX5_side 48 = .ok (.iaload, 1) := by decide +kernel
theorem dX5_side_49 : decode cX5_side 49 = .ok (.i2l, 1) := by decide +kernel
theorem dX5_side_50 : decode cX5_side 50 = .ok (.lload 6, 2) := by decide +kernel
theorem dX5_side_52 : decode cX5_side 52 = .ok (.lmul, 1) := by decide +kernel
theorem dX5_side_53 : decode cX5_side 53 = .ok (.lsub, 1) := by decide +kernel
theorem dX5_side_54 : decode cX5_side 54 = .ok (.lmul, 1) := by decide +kernel
theorem dX5_side_55 : decode cX5_side 55 = .ok (.lsub, 1) := by decide +kernel
theorem dX5_side_56 : decode cX5_side 56 = .ok (.lreturn, 1) := by decide +kernel
set_option maxRecDepth 20000 in
theorem ggX5_onEdge_X5_side : GoodIn wsX5_onEdge wsX5_side := goodIn_r _ [9, 3, 1, 2, 4, 13, 14, 15, 16, 17, 18, 19, 20, 21, 22, 23, 24, 25, 26, 27, 28, 29, 30, 31, 32, 33, 34, 35, 36, 37, 38, 39] (by decide +kernel) (by decide +kernel)
set_option maxRecDepth 20000 in
theorem gX5_onEdge_X5_side : GoodIn wsX5_onEdge (wsV RX5 95 RX5 yX5_side wsX5_side) := goodIn_app (goodIn_of _ (by decide +kernel)) ggX5_onEdge_X5_side
set_option maxRecDepth 20000 in
theorem ggX5_onEdge_X5_order : GoodIn wsX5_onEdge wsX5_order := goodIn_r _ [12] (by decide +kernel) (by decide +kernel)
set_option maxRecDepth 20000 in
theorem gX5_onEdge_X5_order : GoodIn wsX5_onEdge (va_wsS RX5 80 yX5_order wsX5_order) := goodIn_app (goodIn_of _ (by decide +kernel)) ggX5_onEdge_X5_order
theorem dX5_onEdge_0 : decode cX5_onEdge 0 = .ok (.aload_n 0, 1) := by decide +kernel
theorem dX5_onEdge_1 : decode cX5_onEdge 1 = .ok (.iload_n 1, 1) := by decide +kernel
theorem dX5_onEdge_2 : decode cX5_onEdge 2 = .ok (.lload_n 2, 1) := by decide +kernel
theorem dX5_onEdge_3 : decode cX5_onEdge 3 = .ok (.lload 4, 2) := by decide +kernel
theorem dX5_onEdge_5 : decode cX5_onEdge 5 = .ok (.lload 6, 2) := by decide +kernel
theorem dX5_onEdge_7 : decode cX5_onEdge 7 = .ok (.invokevirtual 95, 3) := by decide +kernel
theorem dX5_onEdge_10 : decode cX5_onEdge 10 = .ok (.lconst 0, 1) := by decide +kernel
theorem dX5_onEdge_11 : decode cX5_onEdge 11 = .ok (.lcmp, 1) := by decide +kernel
theorem dX5_onEdge_12 : decode cX5_onEdge 12 = .ok (.ifCond .ne 59, 3) := by decide +kernel
theorem dX5_onEdge_15 : decode cX5_onEdge 15 = .ok (.lload_n 2, 1) := by decide +kernel
theorem dX5_onEdge_16 : decode cX5_onEdge 16 = .ok (.lload 4, 2) := by decide +kernel
theorem dX5_onEdge_18 : decode cX5_onEdge 18 = .ok (.lload 6, 2) := by decide +kernel
theorem dX5_onEdge_20 : decode cX5_onEdge 20 = .ok (.aload_n 0, 1) := by decide +kernel
theorem dX5_onEdge_21 : decode cX5_onEdge 21 = .ok (.getfield 19, 3) := by decide +kernel
theorem dX5_onEdge_24 : decode cX5_onEdge 24 = .ok (.iload_n 1, 1) := by decide +kernel
theorem dX5_onEdge_25 : decode cX5_onEdge 25 = .ok (.iaload, 1) := by decide +kernel
theorem dX5_onEdge_26 : decode cX5_onEdge 26 = .ok (.i2l, 1) := by decide +kernel
theorem dX5_onEdge_27 : decode cX5_onEdge 27 = .ok (.aload_n 0, 1) := by decide +kernel
theorem dX5_onEdge_28 : decode cX5_onEdge 28 = .ok (.getfield 22, 3) := by decide +kernel
theorem dX5_onEdge_31 : decode cX5_onEdge 31 = .ok (.iload_n 1, 1) := by decide +kernel
theorem dX5_onEdge_32 : decode cX5_onEdge 32 = .ok (.iaload, 1) := by decide +kernel
theorem dX5_onEdge_33 : decode cX5_onEdge 33 = .ok (.i2l, 1) := by decide +kernel
theorem dX5_onEdge_34 : decode cX5_onEdge 34 = .ok (.lconst 1, 1) := by decide +kernel
theorem dX5_onEdge_35 : decode cX5_onEdge 35 = .ok (.invokestatic 80, 3) := by decide +kernel
theorem dX5_onEdge_38 : decode cX5_onEdge 38 = .ok (.ifCond .lt 33, 3) := by decide +kernel
theorem dX5_onEdge_41 : decode cX5_onEdge 41 = .ok (.lload_n 2, 1) := by decide +kernel
theorem dX5_onEdge_42 : decode cX5_onEdge 42 = .ok (.lload 4, 2) := by decide +kernel
theorem dX5_onEdge_44 : decode cX5_onEdge 44 = .ok (.lload 6, 2) := by decide +kernel
theorem dX5_onEdge_46 : decode cX5_onEdge 46 = .ok (.aload_n 0, 1) := by decide +kernel
theorem dX5_onEdge_47 : decode cX5_onEdge 47 = .ok (.getfield 25, 3) := by decide +kernel
theorem dX5_onEdge_50 : decode cX5_onEdge 50 = .ok (.iload_n 1, 1) := by decide +kernel
theorem dX5_onEdge_51 : decode cX5_onEdge 51 = .ok (.iaload, 1) := by decide +kernel
theorem dX5_onEdge_52 : decode cX5_onEdge 52 = .ok (.i2l, 1) := by decide +kernel
theorem dX5_onEdge_53 : decode cX5_onEdge 53 = .ok (.aload_n 0, 1) := by decide +kernel
theorem dX5_onEdge_54 : decode cX5_onEdge 54 = .ok (.getfield 28, 3) := by decide +kernel
theorem dX5_onEdge_57 : decode cX5_onEdge 57 = .ok (.iload_n 1, 1) := by decide +kernel
theorem dX5_onEdge_58 : decode cX5_onEdge 58 = .ok (.iaload, 1) := by decide +kernel
theorem dX5_onEdge_59 : decode cX5_onEdge 59 = .ok (.i2l, 1) := by decide +kernel
theorem dX5_onEdge_60 : decode cX5_onEdge 60 = .ok (.lconst 1, 1) := by decide +kernel
theorem dX5_onEdge_61 : decode cX5_onEdge 61 = .ok (.invokestatic 80, 3) := by decide +kernel
theorem dX5_onEdge_64 : decode cX5_onEdge 64 = .ok (.ifCond .gt 7, 3) := by decide +kernel
theorem dX5_onEdge_67 : decode cX5_onEdge 67 = .ok (.iconst 1, 1) := by decide +kernel
theorem dX5_onEdge_68 : decode cX5_onEdge 68 = .ok (.goto 4, 3) := by decide +kernel
theorem dX5_onEdge_71 : decode cX5_onEdge 71 = .ok (.iconst 0, 1) := by decide +kernel
theorem dX5_onEdge_72 : decode cX5_onEdge 72 = .ok (.ireturn, 1) := by decide +kernel
set_option maxRecDepth 20000 in
theorem ggX5_meet_X5_along : GoodIn wsX5_meet wsX5_along := goodIn_r _ [15, 2, 4, 5, 6, 7, 1, 3, 8, 9, 10, 16, 17, 18, 14, 19, 20, 21, 22, 27, 28, 29, 30, 31, 32, 33, 34, 35, 36, 37, 38, 39, 40, 41, 42, 43, 44, 45, 46, 47, 48, 49, 50, 51, 52, 53] (by decide +kernel) (by decide +kernel)
set_option maxRecDepth 20000 in
theorem gX5_meet_X5_along : GoodIn wsX5_meet (wsV RX5 99 RX5 yX5_along wsX5_along) := goodIn_app (goodIn_of _ (by decide +kernel)) ggX5_meet_X5_along
set_option maxRecDepth 20000 in
theorem ggX5_meet_X5_onEdge : GoodIn wsX5_meet wsX5_onEdge := goodIn_r _ [26, 2, 4, 1, 3, 16, 17, 18, 14, 19, 20, 21, 22, 27, 28, 29, 30, 31, 32, 33, 34, 35, 36, 37, 38, 39, 40, 41, 42, 43, 44, 45, 46, 47, 48, 49, 50, 51, 52, 53] (by decide +kernel) (by decide +kernel)
set_option maxRecDepth 20000 in
theorem gX5_meet_X5_onEdge : GoodIn wsX5_meet (wsV RX5 112 RX5 yX5_onEdge wsX5_onEdge) := goodIn_app (goodIn_of _ (by decide +kernel)) ggX5_meet_X5_onEdge
theorem dX5_meet_0 : decode cX5_meet 0 = .ok (.aload_n 0, 1) := by decide +kernel
theorem dX5_meet_1 : decode cX5_meet 1 = .ok (.getfield 25, 3) := by decide +kernel
theorem dX5_meet_4 : decode cX5_meet 4 = .ok (.iload_n 1, 1) := by decide +kernel
theorem dX5_meet_5 : decode cX5_meet 5 = .ok (.iaload, 1) := by decide +kernel
theorem dX5_meet_6 : decode cX5_meet 6 = .ok (.aload_n 0, 1) := by decide +kernel
theorem dX5_meet_7 : decode cX5_meet 7 = .ok (.getfield 19, 3) := by decide +kernel
theorem dX5_meet_10 : decode cX5_meet 10 = .ok (.iload_n 1, 1) := by decide +kernel
theorem dX5_meet_11 : decode cX5_meet 11 = .ok (.iaload, 1) := by decide +kernel
theorem dX5_meet_12 : decode cX5_meet 12 = .ok (.isub, 1) := by decide +kernel
theorem dX5_meet_13 : decode cX5_meet 13 = .ok (.i2l, 1) := by decide +kernel
theorem dX5_meet_14 : decode cX5_meet 14 = .ok (.lstore_n 3, 1) := by decide +kernel
theorem dX5_meet_15 : decode cX5_meet 15 = .ok (.aload_n 0, 1) := by decide +kernel
theorem dX5_meet_16 : decode cX5_meet 16 = .ok (.getfield 28, 3) := by decide +kernel
theorem dX5_meet_19 : decode cX5_meet 19 = .ok (.iload_n 1, 1) := by decide +kernel
theorem dX5_meet_20 : decode cX5_meet 20 = .ok (.iaload, 1) := by decide +kernel
theorem dX5_meet_21 : decode cX5_meet 21 = .ok (.aload_n 0, 1) := by decide +kernel
theorem dX5_meet_22 : decode cX5_meet 22 = .ok (.getfield 22, 3) := by decide +kernel
theorem dX5_meet_25 : decode cX5_meet 25 = .ok (.iload_n 1, 1) := by decide +kernel
theorem dX5_meet_26 : decode cX5_meet 26 = .ok (.iaload, 1) := by decide +kernel
theorem dX5_meet_27 : decode cX5_meet 27 = .ok (.isub, 1) := by decide +kernel
theorem dX5_meet_28 : decode cX5_meet 28 = .ok (.i2l, 1) := by decide +kernel
theorem dX5_meet_29 : decode cX5_meet 29 = .ok (.lstore 5, 2) := by decide +kernel
theorem dX5_meet_31 : decode cX5_meet 31 = .ok (.aload_n 0, 1) := by decide +kernel
theorem dX5_meet_32 : decode cX5_meet 32 = .ok (.getfield 25, 3) := by decide +kernel
theorem dX5_meet_35 : decode cX5_meet 35 = .ok (.iload_n 2, 1) := by decide +kernel
theorem dX5_meet_36 : decode cX5_meet 36 = .ok (.iaload, 1) := by decide +kernel
theorem dX5_meet_37 : decode cX5_meet 37 = .ok (.aload_n 0, 1) := by decide +kernel
theorem dX5_meet_38 : decode cX5_meet 38 = .ok (.getfield 19, 3) := by decide +kernel
theorem dX5_meet_41 : decode cX5_meet 41 = .ok (.iload_n 2, 1) := by decide +kernel
theorem dX5_meet_42 : decode cX5_meet 42 = .ok (.iaload, 1) := by decide +kernel
theorem dX5_meet_43 : decode cX5_meet 43 = .ok (.isub, 1) := by decide +kernel
theorem dX5_meet_44 : decode cX5_meet 44 = .ok (.i2l, 1) := by decide +kernel
theorem dX5_meet_45 : decode cX5_meet 45 = .ok (.lstore 7, 2) := by decide +kernel
theorem dX5_meet_47 : decode cX5_meet 47 = .ok (.aload_n 0, 1) := by decide +kernel
theorem dX5_meet_48 : decode cX5_meet 48 = .ok (.getfield 28, 3) := by decide +kernel
theorem dX5_meet_51 : decode cX5_meet 51 = .ok (.iload_n 2, 1) := by decide +kernel
theorem dX5_meet_52 : decode cX5_meet 52 = .ok (.iaload, 1) := by decide +kernel
theorem dX5_meet_53 : decode cX5_meet 53 = .ok (.aload_n 0, 1) := by decide +kernel
theorem dX5_meet_54 : decode cX5_meet 54 = .ok (.getfield 22, 3) := by decide +kernel
theorem dX5_meet_57 : decode cX5_meet 57 = .ok (.iload_n 2, 1) := by decide +kernel
theorem dX5_meet_58 : decode cX5_meet 58 = .ok (.iaload, 1) := by decide +kernel
theorem dX5_meet_59 : decode cX5_meet 59 = .ok (.isub, 1) := by decide +kernel
theorem dX5_meet_60 : decode cX5_meet 60 = .ok (.i2l, 1) := by decide +kernel
theorem dX5_meet_61 : decode cX5_meet 61 = .ok (.lstore 9, 2) := by decide +kernel
theorem dX5_meet_63 : decode cX5_meet 63 = .ok (.lload_n 3, 1) := by decide +kernel
theorem dX5_meet_64 : decode cX5_meet 64 = .ok (.lload 9, 2) := by decide +kernel
theorem dX5_meet_66 : decode cX5_meet 66 = .ok (.lmul, 1) := by decide +kernel
theorem dX5_meet_67 : decode cX5_meet 67 = .ok (.lload 5, 2) := by decide +kernel
theorem dX5_meet_69 : decode cX5_meet 69 = .ok (.lload 7, 2) := by decide +kernel
theorem dX5_meet_71 : decode cX5_meet 71 = .ok (.lmul, 1) := by decide +kernel
theorem dX5_meet_72 : decode cX5_meet 72 = .ok (.lsub, 1) := by decide +kernel
theorem dX5_meet_73 : decode cX5_meet 73 = .ok (.lstore 11, 2) := by decide +kernel
theorem dX5_meet_75 : decode cX5_meet 75 = .ok (.lload 11, 2) := by decide +kernel
theorem dX5_meet_77 : decode cX5_meet 77 = .ok (.lconst 0, 1) := by decide +kernel
theorem dX5_meet_78 : decode cX5_meet 78 = .ok (.lcmp, 1) := by decide +kernel
theorem dX5_meet_79 : decode cX5_meet 79 = .ok (.ifCond .ne 10, 3) := by decide +kernel
theorem dX5_meet_82 : decode cX5_meet 82 = .ok (.aload_n 0, 1) := by decide +kernel
theorem dX5_meet_83 : decode cX5_meet 83 = .ok (.iload_n 1, 1) := by decide +kernel
theorem dX5_meet_84 : decode cX5_meet 84 = .ok (.iload_n 2, 1) := by decide +kernel
theorem dX5_meet_85 : decode cX5_meet 85 = .ok (.invokevirtual 99, 3) := by decide +kernel
theorem dX5_meet_88 : decode cX5_meet 88 = .ok (.ireturn, 1) := by decide +kernel
theorem dX5_meet_89 : decode cX5_meet 89 = .ok (.lload 11, 2) := by decide +kernel
theorem dX5_meet_91 : decode cX5_meet 91 = .ok (.lconst 0, 1) := by decide +kernel
theorem dX5_meet_92 : decode cX5_meet 92 = .ok (.lcmp, 1) := by decide +kernel
theorem dX5_meet_93 : decode cX5_meet 93 = .ok (.ifCond .ge 9, 3) := by decide +kernel
theorem dX5_meet_96 : decode cX5_meet 96 = .ok (.lload 11, 2) := by decide +kernel
theorem dX5_meet_98 : decode cX5_meet 98 = .ok (.lneg, 1) := by decide +kernel
theorem dX5_meet_99 : decode cX5_meet 99 = .ok (.goto 5, 3) := by decide +kernel
theorem dX5_meet_102 : decode cX5_meet 102 = .ok (.lload 11, 2) := by decide +kernel
theorem dX5_meet_104 : decode cX5_meet 104 = .ok (.lstore 13, 2) := by decide +kernel
theorem dX5_meet_106 : decode cX5_meet 106 = .ok (.aload_n 0, 1) := by decide +kernel
theorem dX5_meet_107 : decode cX5_meet 107 = .ok (.getfield 19, 3) := by decide +kernel
theorem dX5_meet_110 : decode cX5_meet 110 = .ok (.iload_n 2, 1) := by decide +kernel
theorem dX5_meet_111 : decode cX5_meet 111 = .ok (.iaload, 1) := by decide +kernel
theorem dX5_meet_112 : decode cX5_meet 112 = .ok (.aload_n 0, 1) := by decide +kernel
theorem dX5_meet_113 : decode cX5_meet 113 = .ok (.getfield 19, 3) := by decide +kernel
theorem dX5_meet_116 : decode cX5_meet 116 = .ok (.iload_n 1, 1) := by decide +kernel
theorem dX5_meet_117 : decode cX5_meet 117 = .ok (.iaload, 1) := by decide +kernel
theorem dX5_meet_118 : decode cX5_meet 118 = .ok (.isub, 1) := by decide +kernel
theorem dX5_meet_119 : decode cX5_meet 119 = .ok (.i2l, 1) := by decide +kernel
theorem dX5_meet_120 : decode cX5_meet 120 = .ok (.lload 9, 2) := by decide +kernel
theorem dX5_meet_122 : decode cX5_meet 122 = .ok (.lmul, 1) := by decide +kernel
theorem dX5_meet_123 : decode cX5_meet 123 = .ok (.aload_n 0, 1) := by decide +kernel
theorem dX5_meet_124 : decode cX5_meet 124 = .ok (.getfield 22, 3) := by decide +kernel
theorem dX5_meet_127 : decode cX5_meet 127 = .ok (.iload_n 2, 1) := by decide +kernel
theorem dX5_meet_128 : decode cX5_meet 128 = .ok (.iaload, 1) := by decide +kernel
theorem dX5_meet_129 : decode cX5_meet 129 = .ok (.aload_n 0, 1) := by decide +kernel
theorem dX5_meet_130 : decode cX5_meet 130 = .ok (.getfield 22, 3) := by decide +kernel
theorem dX5_meet_133 : decode cX5_meet 133 = .ok (.iload_n 1, 1) := by decide +kernel
theorem dX5_meet_134 : decode cX5_meet 134 = .ok (.iaload, 1) := by decide +kernel
theorem dX5_meet_135 : decode cX5_meet 135 = .ok (.isub, 1) := by decide +kernel
theorem dX5_meet_136 : decode cX5_meet 136 = .ok (.i2l, 1) := by decide +kernel
theorem dX5_meet_137 : decode cX5_meet 137 = .ok (.lload 7, 2) := by decide +kernel
theorem dX5_meet_139 : decode cX5_meet 139 = .ok (.lmul, 1) := by decide +kernel
theorem dX5_meet_140 : decode cX5_meet 140 = .ok (.lsub, 1) := by decide +kernel
theorem dX5_meet_141 : decode cX5_meet 141 = .ok (.lstore 15, 2) := by decide +kernel
theorem dX5_meet_143 : decode cX5_meet 143 = .ok (.lload 11, 2) := by decide +kernel
theorem dX5_meet_145 : decode cX5_meet 145 = .ok (.lconst 0, 1) := by decide +kernel
theorem dX5_meet_146 : decode cX5_meet 146 = .ok (.lcmp, 1) := by decide +kernel
theorem dX5_meet_147 : decode cX5_meet 147 = .ok (.ifCond .ge 9, 3) := by decide +kernel
theorem dX5_meet_150 : decode cX5_meet 150 = .ok (.lload 15, 2) := by decide +kernel
theorem dX5_meet_152 : decode cX5_meet 152 = .ok (.lneg, 1) := by decide +kernel
theorem dX5_meet_153 : decode cX5_meet 153 = .ok (.goto 5, 3) := by decide +kernel
theorem dX5_meet_156 : decode cX5_meet 156 = .ok (.lload 15, 2) := by decide +kernel
theorem dX5_meet_158 : decode cX5_meet 158 = .ok (.lstore 15, 2) := by decide +kernel
theorem dX5_meet_160 : decode cX5_meet 160 = .ok (.aload_n 0, 1) := by decide +kernel
theorem dX5_meet_161 : decode cX5_meet 161 = .ok (.aload_n 0, 1) := by decide +kernel
theorem dX5_meet_162 : decode cX5_meet 162 = .ok (.getfield 19, 3) := by decide +kernel
theorem dX5_meet_165 : decode cX5_meet 165 = .ok (.iload_n 1, 1) := by decide +kernel
theorem dX5_meet_166 : decode cX5_meet 166 = .ok (.iaload, 1) := by decide +kernel
theorem dX5_meet_167 : decode cX5_meet 167 = .ok (.i2l, 1) := by decide +kernel
theorem dX5_meet_168 : decode cX5_meet 168 = .ok (.lload 13, 2) := by decide +kernel
theorem dX5_meet_170 : decode cX5_meet 170 = .ok (.lmul, 1) := by decide +kernel
theorem dX5_meet_171 : decode cX5_meet 171 = .ok (.lload 15, 2) := by decide +kernel
theorem dX5_meet_173 : decode cX5_meet 173 = .ok (.lload_n 3, 1) := by decide +kernel
theorem dX5_meet_174 : decode cX5_meet 174 = .ok (.lmul, 1) := by decide +kernel
theorem dX5_meet_175 : decode cX5_meet 175 = .ok (.ladd, 1) := by decide +kernel
theorem dX5_meet_176 : decode cX5_meet 176 = .ok (.putfield 70, 3) := by decide +kernel
theorem dX5_meet_179 : decode cX5_meet 179 = .ok (.aload_n 0, 1) := by decide +kernel
theorem dX5_meet_180 : decode cX5_meet 180 = .ok (.aload_n 0, 1) := by decide +kernel
theorem dX5_meet_181 : decode cX5_meet 181 = .ok (.getfield 22, 3) := by decide +kernel
theorem dX5_meet_184 : decode cX5_meet 184 = .ok (.iload_n 1, 1) := by decide +kernel
theorem dX5_meet_185 : decode cX5_meet 185 = .ok (.iaload, 1) := by decide +kernel
theorem dX5_meet_186 : decode cX5_meet 186 = .ok (.i2l, 1) := by decide +kernel
theorem dX5_meet_187 : decode cX5_meet 187 = .ok (.lload 13, 2) := by decide +kernel
theorem dX5_meet_189 : decode cX5_meet 189 = .ok (.lmul, 1) := by decide +kernel
theorem dX5_meet_190 : decode cX5_meet 190 = .ok (.lload 15, 2) := by decide +kernel
theorem dX5_meet_192 : decode cX5_meet 192 = .ok (.lload 5, 2) := by decide +kernel
theorem dX5_meet_194 : decode cX5_meet 194 = .ok (.lmul, 1) := by decide +kernel
theorem dX5_meet_195 : decode cX5_meet 195 = .ok (.ladd, 1) := by decide +kernel
theorem dX5_meet_196 : decode cX5_meet 196 = .ok (.putfield 74, 3) := by decide +kernel
theorem dX5_meet_199 : decode cX5_meet 199 = .ok (.aload_n 0, 1) := by decide +kernel
theorem dX5_meet_200 : decode cX5_meet 200 = .ok (.lload 13, 2) := by decide +kernel
theorem dX5_meet_202 : decode cX5_meet 202 = .ok (.putfield 77, 3) := by decide +kernel
theorem dX5_meet_205 : decode cX5_meet 205 = .ok (.aload_n 0, 1) := by decide +kernel
theorem dX5_meet_206 : decode cX5_meet 206 = .ok (.aload_n 0, 1) := by decide +kernel
theorem dX5_meet_207 : decode cX5_meet 207 = .ok (.getfield 70, 3) := by decide +kernel
theorem dX5_meet_210 : decode cX5_meet 210 = .ok (.putfield 103, 3) := by decide +kernel
theorem dX5_meet_213 : decode cX5_meet 213 = .ok (.aload_n 0, 1) := by decide +kernel
theorem dX5_meet_214 : decode cX5_meet 214 = .ok (.aload_n 0, 1) := by decide +kernel
theorem dX5_meet_215 : decode cX5_meet 215 = .ok (.getfield 74, 3) := by decide +kernel
theorem dX5_meet_218 : decode cX5_meet 218 = .ok (.putfield 106, 3) := by decide +kernel
theorem dX5_meet_221 : decode cX5_meet 221 = .ok (.aload_n 0, 1) := by decide +kernel
theorem dX5_meet_222 : decode cX5_meet 222 = .ok (.aload_n 0, 1) := by decide +kernel
theorem dX5_meet_223 : decode cX5_meet 223 = .ok (.getfield 77, 3) := by decide +kernel
theorem dX5_meet_226 : decode cX5_meet 226 = .ok (.putfield 109, 3) := by decide +kernel
theorem dX5_meet_229 : decode cX5_meet 229 = .ok (.aload_n 0, 1) := by decide +kernel
theorem dX5_meet_230 : decode cX5_meet 230 = .ok (.iload_n 1, 1) := by decide +kernel
theorem dX5_meet_231 : decode cX5_meet 231 = .ok (.aload_n 0, 1) := by decide +kernel
theorem dX5_meet_232 : decode cX5_meet 232 = .ok (.getfield 70, 3) := by decide +kernel
theorem dX5_meet_235 : decode cX5_meet 235 = .ok (.aload_n 0, 1) := by decide +kernel
theorem dX5_meet_236 : decode cX5_meet 236 = .ok (.getfield 74, 3) := by decide +kernel
theorem dX5_meet_239 : decode cX5_meet 239 = .ok (.aload_n 0, 1) := by decide +kernel
theorem dX5_meet_240 : decode cX5_meet 240 = .ok (.getfield 77, 3) := by decide +kernel
theorem dX5_meet_243 : decode cX5_meet 243 = .ok (.invokevirtual 112, 3) := by decide +kernel
theorem dX5_meet_246 : decode cX5_meet 246 = .ok (.ifCond .eq 27, 3) := by decide +kernel
theorem dX5_meet_249 : decode cX5_meet 249 = .ok (.aload_n 0, 1) := by decide +kernel
theorem dX5_meet_250 : decode cX5_meet 250 = .ok (.iload_n 2, 1) := by decide +kernel
theorem dX5_meet_251 : decode cX5_meet 251 = .ok (.aload_n 0, 1) := by decide +kernel
theorem dX5_meet_252 : decode cX5_meet 252 = .ok (.getfield 70, 3) := by decide +kernel
theorem dX5_meet_255 : decode cX5_meet 255 = .ok (.aload_n 0, 1) := by decide +kernel
theorem dX5_meet_256 : decode cX5_meet 256 = .ok (.getfield 74, 3) := by decide +kernel
theorem dX5_meet_259 : decode cX5_meet 259 = .ok (.aload_n 0, 1) := by decide +kernel
theorem dX5_meet_260 : decode cX5_meet 260 = .ok (.getfield 77, 3) := by decide +kernel
theorem dX5_meet_263 : decode cX5_meet 263 = .ok (.invokevirtual 112, 3) := by decide +kernel
theorem dX5_meet_266 : decode cX5_meet 266 = .ok (.ifCond .eq 7, 3) := by decide +kernel
theorem dX5_meet_269 : decode cX5_meet 269 = .ok (.iconst 1, 1) := by decide +kernel
theorem dX5_meet_270 : decode cX5_meet 270 = .ok (.goto 4, 3) := by decide +kernel
theorem dX5_meet_273 : decode cX5_meet 273 = .ok (.iconst 0, 1) := by decide +kernel
theorem dX5_meet_274 : decode cX5_meet 274 = .ok (.ireturn, 1) := by decide +kernel
set_option maxRecDepth 20000 in
theorem ggX5_along_X5_side : GoodIn wsX5_along wsX5_side := goodIn_r _ [15, 6, 1, 2, 7, 19, 20, 21, 22, 23, 24, 25, 26, 27, 28, 29, 30, 31, 32, 33, 34, 35, 36, 37, 38, 39, 40, 41, 42, 43, 44, 45] (by decide +kernel) (by decide +kernel)
set_option maxRecDepth 20000 in
theorem gX5_along_X5_side : GoodIn wsX5_along (wsV RX5 95 RX5 yX5_side wsX5_side) := goodIn_app (goodIn_of _ (by decide +kernel)) ggX5_along_X5_side
set_option maxRecDepth 20000 in
theorem ggX5_along_X5_order : GoodIn wsX5_along wsX5_order := goodIn_r _ [18] (by decide +kernel) (by decide +kernel)
set_option maxRecDepth 20000 in
theorem gX5_along_X5_order : GoodIn wsX5_along (va_wsS RX5 80 yX5_order wsX5_order) := goodIn_app (goodIn_of _ (by decide +kernel)) ggX5_along_X5_order
theorem dX5_along_0 : decode cX5_along 0 = .ok (.aload_n 0, 1) := by decide +kernel
theorem dX5_along_1 : decode cX5_along 1 = .ok (.iload_n 1, 1) := by decide +kernel
theorem dX5_along_2 : decode cX5_along 2 = .ok (.aload_n 0, 1) := by decide +kernel
theorem dX5_along_3 : decode cX5_along 3 = .ok (.getfield 19, 3) := by decide +kernel
theorem dX5_along_6 : decode cX5_along 6 = .ok (.iload_n 2, 1) := by decide +kernel
theorem dX5_along_7 : decode cX5_along 7 = .ok (.iaload, 1) := by decide +kernel
theorem dX5_along_8 : decode cX5_along 8 = .ok (.i2l, 1) := by decide +kernel
theorem dX5_along_9 : decode cX5_along 9 = .ok (.aload_n 0, 1) := by decide +kernel
theorem dX5_along_10 : decode cX5_along 10 = .ok (.getfield 22, 3) := by decide +kernel
theorem dX5_along_13 : decode cX5_along 13 = .ok (.iload_n 2, 1) := by decide +kernel
theorem dX5_along_14 : decode cX5_along 14 = .ok (.iaload, 1) := by decide +kernel
theorem dX5_along_15 : decode cX5_along 15 = .ok (.i2l, 1) := by decide +kernel
theorem dX5_along_16 : decode cX5_along 16 = .ok (.lconst 1, 1) := by decide +kernel
theorem dX5_along_17 : decode cX5_along 17 = .ok (.invokevirtual 95, 3) := by decide +kernel
theorem dX5_along_20 : decode cX5_along 20 = .ok (.lconst 0, 1) := by decide +kernel
theorem dX5_along_21 : decode cX5_along 21 = .ok (.lcmp, 1) := by decide +kernel
theorem dX5_along_22 : decode cX5_along 22 = .ok (.ifCond .eq 5, 3) := by decide +kernel
theorem dX5_along_25 : decode cX5_along 25 = .ok (.iconst 0, 1) := by decide +kernel
theorem dX5_along_26 : decode cX5_along 26 = .ok (.ireturn, 1) := by decide +kernel
theorem dX5_along_27 : decode cX5_along 27 = .ok (.aload_n 0, 1) := by decide +kernel
theorem dX5_along_28 : decode cX5_along 28 = .ok (.getfield 19, 3) := by decide +kernel
theorem dX5_along_31 : decode cX5_along 31 = .ok (.iload_n 1, 1) := by decide +kernel
theorem dX5_along_32 : decode cX5_along 32 = .ok (.iaload, 1) := by decide +kernel
theorem dX5_along_33 : decode cX5_along 33 = .ok (.i2l, 1) := by decide +kernel
theorem dX5_along_34 : decode cX5_along 34 = .ok (.aload_n 0, 1) := by decide +kernel
theorem dX5_along_35 : decode cX5_along 35 = .ok (.getfield 22, 3) := by decide +kernel
theorem dX5_along_38 : decode cX5_along 38 = .ok (.iload_n 1, 1) := by decide +kernel
theorem dX5_along_39 : decode cX5_along 39 = .ok (.iaload, 1) := by decide +kernel
theorem dX5_along_40 : decode cX5_along 40 = .ok (.i2l, 1) := by decide +kernel
theorem dX5_along_41 : decode cX5_along 41 = .ok (.lconst 1, 1) := by decide +kernel
theorem dX5_along_42 : decode cX5_along 42 = .ok (.aload_n 0, 1) := by decide +kernel
theorem dX5_along_43 : decode cX5_along 43 = .ok (.getfield 19, 3) := by decide +kernel
theorem dX5_along_46 : decode cX5_along 46 = .ok (.iload_n 2, 1) := by decide +kernel
theorem dX5_along_47 : decode cX5_along 47 = .ok (.iaload, 1) := by decide +kernel
theorem dX5_along_48 : decode cX5_along 48 = .ok (.i2l, 1) := by decide +kernel
theorem dX5_along_49 : decode cX5_along 49 = .ok (.aload_n 0, 1) := by decide +kernel
theorem dX5_along_50 : decode cX5_along 50 = .ok (.getfield 22, 3) := by decide +kernel
theorem dX5_along_53 : decode cX5_along 53 = .ok (.iload_n 2, 1) := by decide +kernel
theorem dX5_along_54 : decode cX5_along 54 = .ok (.iaload, 1) := by decide +kernel
theorem dX5_along_55 : decode cX5_along 55 = .ok (.i2l, 1) := by decide +kernel
theorem dX5_along_56 : decode cX5_along 56 = .ok (.lconst 1, 1) := by decide +kernel
theorem dX5_along_57 : decode cX5_along 57 = .ok (.invokestatic 80, 3) := by decide +kernel
theorem dX5_along_60 : decode cX5_along 60 = .ok (.ifCond .ge 7, 3) := by decide +kernel
theorem dX5_along_63 : decode cX5_along 63 = .ok (.iconst 1, 1) := by decide +kernel
theorem dX5_along_64 : decode cX5_along 64 = .ok (.goto 4, 3) := by decide +kernel
theorem dX5_along_67 : decode cX5_along 67 = .ok (.iconst 0, 1) := by decide +kernel
theorem dX5_along_68 : decode cX5_along 68 = .ok (.istore_n 3, 1) := by decide +kernel
theorem dX5_along_69 : decode cX5_along 69 = .ok (.aload_n 0, 1) := by decide +kernel
theorem dX5_along_70 : decode cX5_along 70 = .ok (.iload_n 3, 1) := by decide +kernel
theorem dX5_along_71 : decode cX5_along 71 = .ok (.ifCond .eq 13, 3) := by decide +kernel
theorem dX5_along_74 : decode cX5_along 74 = .ok (.aload_n 0, 1) := by decide +kernel
theorem dX5_along_75 : decode cX5_along 75 = .ok (.getfield 19, 3) := by decide +kernel
theorem dX5_along_78 : decode cX5_along 78 = .ok (.iload_n 2, 1) := by decide +kernel
theorem dX5_along_79 : decode cX5_along 79 = .ok (.iaload, 1) := by decide +kernel
theorem dX5_along_80 : decode cX5_along 80 = .ok (.i2l, 1) := by decide +kernel
theorem dX5_along_81 : decode cX5_along 81 = .ok (.goto 10, 3) := by decide +kernel
theorem dX5_along_84 : decode cX5_along 84 = .ok (.aload_n 0, 1) := by decide +kernel
theorem dX5_along_85 : decode cX5_along 85 = .ok (.getfield 19, 3) := by decide +kernel
theorem dX5_along_88 : decode cX5_along 88 = .ok (.iload_n 1, 1) := by decide +kernel
theorem dX5_along_89 : decode cX5_along 89 = .ok (.iaload, 1) := by decide +kernel
theorem dX5_along_90 : decode cX5_along 90 = .ok (.i2l, 1) := by decide +kernel
theorem dX5_along_91 : decode cX5_along 91 = .ok (.putfield 70, 3) := by decide +kernel
theorem dX5_along_94 : decode cX5_along 94 = .ok (.aload_n 0, 1) := by decide +kernel
theorem dX5_along_95 : decode cX5_along 95 = .ok (.iload_n 3, 1) := by decide +kernel
theorem dX5_along_96 : decode cX5_along 96 = .ok (.ifCond .eq 13, 3) := by decide +kernel
theorem dX5_along_99 : decode cX5_along 99 = .ok (.aload_n 0, 1) := by decide +kernel
theorem dX5_along_100 : decode cX5_along 100 = .ok (.getfield 22, 3) := by decide +kernel
theorem dX5_along_103 : decode cX5_along 103 = .ok (.iload_n 2, 1) := by decide +kernel
theorem dX5_along_104 : decode cX5_along 104 = .ok (.iaload, 1) := by decide +kernel
theorem dX5_along_105 : decode cX5_along 105 = .ok (.i2l, 1) := by decide +kernel
theorem dX5_along_106 : decode cX5_along 106 = .ok (.goto 10, 3) := by decide +kernel
theorem dX5_along_109 : decode cX5_along 109 = .ok (.aload_n 0, 1) := by decide +kernel
theorem dX5_along_110 : decode cX5_along 110 = .ok (.getfield 22, 3) := by decide +kernel
theorem dX5_along_113 : decode cX5_along 113 = .ok (.iload_n 1, 1) := by decide +kernel
theorem dX5_along_114 : decode cX5_along 114 = .ok (.iaload, 1) := by decide +kernel
theorem dX5_along_115 : decode cX5_along 115 = .ok (.i2l, 1) := by decide +kernel
theorem dX5_along_116 : decode cX5_along 116 = .ok (.putfield 74, 3) := by decide +kernel
theorem dX5_along_119 : decode cX5_along 119 = .ok (.aload_n 0, 1) := by decide +kernel
theorem dX5_along_120 : decode cX5_along 120 = .ok (.lconst 1, 1) := by decide +kernel
theorem dX5_along_121 : decode cX5_along 121 = .ok (.putfield 77, 3) := by decide +kernel
theorem dX5_along_124 : decode cX5_along 124 = .ok (.aload_n 0, 1) := by decide +kernel
theorem dX5_along_125 : decode cX5_along 125 = .ok (.getfield 25, 3) := by decide +kernel
theorem dX5_along_128 : decode cX5_along 128 = .ok (.iload_n 1, 1) := by decide +kernel
theorem dX5_along_129 : decode cX5_along 129 = .ok (.iaload, 1) := by decide +kernel
theorem dX5_along_130 : decode cX5_along 130 = .ok (.i2l, 1) := by decide +kernel
theorem dX5_along_131 : decode cX5_along 131 = .ok (.aload_n 0, 1) := by decide +kernel
theorem dX5_along_132 : decode cX5_along 132 = .ok (.getfield 28, 3) := by decide +kernel
theorem dX5_along_135 : decode cX5_along 135 = .ok (.iload_n 1, 1) := by decide +kernel
theorem dX5_along_136 : decode cX5_along 136 = .ok (.iaload, 1) := by decide +kernel
theorem dX5_along_137 : decode cX5_along 137 = .ok (.i2l, 1) := by decide +kernel
theorem dX5_along_138 : decode cX5_along 138 = .ok (.lconst 1, 1) := by decide +kernel
theorem dX5_along_139 : decode cX5_along 139 = .ok (.aload_n 0, 1) := by decide +kernel
theorem dX5_along_140 : decode cX5_along 140 = .ok (.getfield 25, 3) := by decide +kernel
theorem dX5_along_143 : decode cX5_along 143 = .ok (.iload_n 2, 1) := by decide +kernel
theorem dX5_along_144 : decode cX5_along 144 = .ok (.iaload, 1) := by decide +kernel
theorem dX5_along_145 : decode cX5_along 145 = .ok (.i2l, 1) := by decide +kernel
theorem dX5_along_146 : decode cX5_along 146 = .ok (.aload_n 0, 1) := by decide +kernel
theorem dX5_along_147 : decode cX5_along 147 = .ok (.getfield 28, 3) := by decide +kernel
theorem dX5_along_150 : decode cX5_along 150 = .ok (.iload_n 2, 1) := by decide +kernel
theorem dX5_along_151 : decode cX5_along 151 = .ok (.iaload, 1) := by decide +kernel
theorem dX5_along_152 : decode cX5_along 152 = .ok (.i2l, 1) := by decide +kernel
theorem dX5_along_153 : decode cX5_along 153 = .ok (.lconst 1, 1) := by decide +kernel
theorem dX5_along_154 : decode cX5_along 154 = .ok (.invokestatic 80, 3) := by decide +kernel
theorem dX5_along_157 : decode cX5_along 157 = .ok (.ifCond .le 7, 3) := by decide +kernel
theorem dX5_along_160 : decode cX5_along 160 = .ok (.iconst 1, 1) := by decide +kernel
theorem dX5_along_161 : decode cX5_along 161 = .ok (.goto 4, 3) := by decide +kernel
theorem dX5_along_164 : decode cX5_along 164 = .ok (.iconst 0, 1) := by decide +kernel
theorem dX5_along_165 : decode cX5_along 165 = .ok (.istore 4, 2) := by decide +kernel
theorem dX5_along_167 : decode cX5_along 167 = .ok (.aload_n 0, 1) := by decide +kernel
theorem dX5_along_168 : decode cX5_along 168 = .ok (.iload 4, 2) := by decide +kernel
theorem dX5_along_170 : decode cX5_along 170 = .ok (.ifCond .eq 13, 3) := by decide +kernel
theorem dX5_along_173 : decode cX5_along 173 = .ok (.aload_n 0, 1) := by decide +kernel
theorem dX5_along_174 : decode cX5_along 174 = .ok (.getfield 25, 3) := by decide +kernel
theorem dX5_along_177 : decode cX5_along 177 = .ok (.iload_n 2, 1) := by decide +kernel
theorem dX5_along_178 : decode cX5_along 178 = .ok (.iaload, 1) := by decide +kernel
theorem dX5_along_179 : decode cX5_along 179 = .ok (.i2l, 1) := by decide +kernel
theorem dX5_along_180 : decode cX5_along 180 = .ok (.goto 10, 3) := by decide +kernel
theorem dX5_along_183 : decode cX5_along 183 = .ok (.aload_n 0, 1) := by decide +kernel
theorem dX5_along_184 : decode cX5_along 184 = .ok (.getfield 25, 3) := by decide +kernel
theorem dX5_along_187 : decode cX5_along 187 = .ok (.iload_n 1, 1) := by decide +kernel
theorem dX5_along_188 : decode cX5_along 188 = .ok (.iaload, 1) := by decide +kernel
theorem dX5_along_189 : decode cX5_along 189 = .ok (.i2l, 1) := by decide +kernel
theorem dX5_along_190 : decode cX5_along 190 = .ok (.putfield 103, 3) := by decide +kernel
theorem dX5_along_193 : decode cX5_along 193 = .ok (.aload_n 0, 1) := by decide +kernel
theorem dX5_along_194 : decode cX5_along 194 = .ok (.iload 4, 2) := by decide +kernel
theorem dX5_along_196 : decode cX5_along 196 = .ok (.ifCond .eq 13, 3) := by decide +kernel
theorem dX5_along_199 : decode cX5_along 199 = .ok (.aload_n 0, 1) := by decide +kernel
theorem dX5_along_200 : decode cX5_along 200 = .ok (.getfield 28, 3) := by decide +kernel
theorem dX5_along_203 : decode cX5_along 203 = .ok (.iload_n 2, 1) := by decide +kernel
theorem dX5_along_204 : decode cX5_along 204 = .ok (.iaload, 1) := by decide +kernel
theorem dX5_along_205 : decode cX5_along 205 = .ok (.i2l, 1) := by decide +kernel
theorem dX5_along_206 : decode cX5_along 206 = .ok (.goto 10, 3) := by decide +kernel
theorem dX5_along_209 : decode cX5_along 209 = .ok (.aload_n 0, 1) := by decide +kernel
theorem dX5_along_210 : decode cX5_along 210 = .ok (.getfield 28, 3) := by decide +kernel
theorem dX5_along_213 : decode cX5_along 213 = .ok (.iload_n 1, 1) := by decide +kernel
theorem dX5_along_214 : decode cX5_along 214 = .ok (.iaload, 1) := by decide +kernel
theorem dX5_along_215 : decode cX5_along 215 = .ok (.i2l, 1) := by decide +kernel
theorem dX5_along_216 : decode cX5_along 216 = .ok (.putfield 106, 3) := by decide +kernel
theorem dX5_along_219 : decode cX5_along 219 = .ok (.aload_n 0, 1) := by decide +kernel
theorem dX5_along_220 : decode cX5_along 220 = .ok (.lconst 1, 1) := by decide +kernel
theorem dX5_along_221 : decode cX5_along 221 = .ok (.putfield 109, 3) := by decide +kernel
theorem dX5_along_224 : decode cX5_along 224 = .ok (.aload_n 0, 1) := by decide +kernel
theorem dX5_along_225 : decode cX5_along 225 = .ok (.getfield 70, 3) := by decide +kernel
theorem dX5_along_228 : decode cX5_along 228 = .ok (.aload_n 0, 1) := by decide +kernel
theorem dX5_along_229 : decode cX5_along 229 = .ok (.getfield 74, 3) := by decide +kernel
theorem dX5_along_232 : decode cX5_along 232 = .ok (.aload_n 0, 1) := by decide +kernel
theorem dX5_along_233 : decode cX5_along 233 = .ok (.getfield 77, 3) := by decide +kernel
theorem dX5_along_236 : decode cX5_along 236 = .ok (.aload_n 0, 1) := by decide +kernel
theorem dX5_along_237 : decode cX5_along 237 = .ok (.getfield 103, 3) := by decide +kernel
theorem dX5_along_240 : decode cX5_along 240 = .ok (.aload_n 0, 1) := by decide +kernel
theorem dX5_along_241 : decode cX5_along 241 = .ok (.getfield 106, 3) := by decide +kernel
theorem dX5_along_244 : decode cX5_along 244 = .ok (.aload_n 0, 1) := by decide +kernel
theorem dX5_along_245 : decode cX5_along 245 = .ok (.getfield 109, 3) := by decide +kernel
theorem dX5_along_248 : decode cX5_along 248 = .ok (.invokestatic 80, 3) := by decide +kernel
theorem dX5_along_251 : decode cX5_along 251 = .ok (.istore 5, 2) := by decide +kernel
theorem dX5_along_253 : decode cX5_along 253 = .ok (.iload 5, 2) := by decide +kernel
theorem dX5_along_255 : decode cX5_along 255 = .ok (.ifCond .le 7, 3) := by decide +kernel
theorem dX5_along_258 : decode cX5_along 258 = .ok (.iconst 0, 1) := by decide +kernel
theorem dX5_along_259 : decode cX5_along 259 = .ok (.goto 13, 3) := by decide +kernel
theorem dX5_along_262 : decode cX5_along 262 = .ok (.iload 5, 2) := by decide +kernel
theorem dX5_along_264 : decode cX5_along 264 = .ok (.ifCond .ne 7, 3) := by decide +kernel
theorem dX5_along_267 : decode cX5_along 267 = .ok (.iconst 1, 1) := by decide +kernel
theorem dX5_along_268 : decode cX5_along 268 = .ok (.goto 4, 3) := by decide +kernel
theorem dX5_along_271 : decode cX5_along 271 = .ok (.iconst 2, 1) := by decide +kernel
theorem dX5_along_272 : decode cX5_along 272 = .ok (.ireturn, 1) := by decide +kernel
theorem dX5_addPiece_0 : decode cX5_addPiece 0 = .ok (.iconst 0, 1) := by decide +kernel
theorem dX5_addPiece_1 : decode cX5_addPiece 1 = .ok (.istore 4, 2) := by decide +kernel
theorem dX5_addPiece_3 : decode cX5_addPiece 3 = .ok (.iload 4, 2) := by decide +kernel
theorem dX5_addPiece_5 : decode cX5_addPiece 5 = .ok (.aload_n 0, 1) := by decide +kernel
theorem dX5_addPiece_6 : decode cX5_addPiece 6 = .ok (.getfield 116, 3) := by decide +kernel
theorem dX5_addPiece_9 : decode cX5_addPiece 9 = .ok (.if_icmp .ge 42, 3) := by decide +kernel
theorem dX5_addPiece_12 : decode cX5_addPiece 12 = .ok (.aload_n 0, 1) := by decide +kernel
theorem dX5_addPiece_13 : decode cX5_addPiece 13 = .ok (.getfield 43, 3) := by decide +kernel
theorem dX5_addPiece_16 : decode cX5_addPiece 16 = .ok (.iload 4, 2) := by decide +kernel
theorem dX5_addPiece_18 : decode cX5_addPiece 18 = .ok (.iaload, 1) := by decide +kernel
theorem dX5_addPiece_19 : decode cX5_addPiece 19 = .ok (.iload_n 1, 1) := by decide +kernel
theorem dX5_addPiece_20 : decode cX5_addPiece 20 = .ok (.if_icmp .lt 25, 3) := by decide +kernel
theorem dX5_addPiece_23 : decode cX5_addPiece 23 = .ok (.aload_n 0, 1) := by decide +kernel
theorem dX5_addPiece_24 : decode cX5_addPiece 24 = .ok (.getfield 43, 3) := by decide +kernel
theorem dX5_addPiece_27 : decode cX5_addPiece 27 = .ok (.iload 4, 2) := by decide +kernel
theorem dX5_addPiece_29 : decode cX5_addPiece 29 = .ok (.iaload, 1) := by decide +kernel
theorem dX5_addPiece_30 : decode cX5_addPiece 30 = .ok (.iload_n 1, 1) := by decide +kernel
theorem dX5_addPiece_31 : decode cX5_addPiece 31 = .ok (.if_icmp .ne 20, 3) := by decide +kernel
theorem dX5_addPiece_34 : decode cX5_addPiece 34 = .ok (.aload_n 0, 1) := by decide +kernel
theorem dX5_addPiece_35 : decode cX5_addPiece 35 = .ok (.getfield 46, 3) := by decide +kernel
theorem dX5_addPiece_38 : decode cX5_addPiece 38 = .ok (.iload 4, 2) := by decide +kernel
theorem dX5_addPiece_40 : decode cX5_addPiece 40 = .ok (.iaload, 1) := by decide +kernel
theorem dX5_addPiece_41 : decode cX5_addPiece 41 = .ok (.iload_n 2, 1) := by decide +kernel
theorem dX5_addPiece_42 : decode cX5_addPiece 42 = .ok (.if_icmp .ge 9, 3) := by decide +kernel
theorem dX5_addPiece_45 : decode cX5_addPiece 45 = .ok (.iinc 4 1, 3) := by decide +kernel
theorem dX5_addPiece_48 : decode cX5_addPiece 48 = .ok (.goto (-45), 3) := by decide +kernel
theorem dX5_addPiece_51 : decode cX5_addPiece 51 = .ok (.iload 4, 2) := by decide +kernel
theorem dX5_addPiece_53 : decode cX5_addPiece 53 = .ok (.aload_n 0, 1) := by decide +kernel
theorem dX5_addPiece_54 : decode cX5_addPiece 54 = .ok (.getfield 116, 3) := by decide +kernel
theorem dX5_addPiece_57 : decode cX5_addPiece 57 = .ok (.if_icmp .eq 25, 3) := by decide +kernel
theorem dX5_addPiece_60 : decode cX5_addPiece 60 = .ok (.aload_n 0, 1) := by decide +kernel
theorem dX5_addPiece_61 : decode cX5_addPiece 61 = .ok (.getfield 43, 3) := by decide +kernel
theorem dX5_addPiece_64 : decode cX5_addPiece 64 = .ok (.iload 4, 2) := by decide +kernel
theorem dX5_addPiece_66 : decode cX5_addPiece 66 = .ok (.iaload, 1) := by decide +kernel
theorem dX5_addPiece_67 : decode cX5_addPiece 67 = .ok (.iload_n 1, 1) := by decide +kernel
theorem dX5_addPiece_68 : decode cX5_addPiece 68 = .ok (.if_icmp .ne 14, 3) := by decide +kernel
theorem dX5_addPiece_71 : decode cX5_addPiece 71 = .ok (.aload_n 0, 1) := by decide +kernel
theorem dX5_addPiece_72 : decode cX5_addPiece 72 = .ok (.getfield 46, 3) := by decide +kernel
theorem dX5_addPiece_75 : decode cX5_addPiece 75 = .ok (.iload 4, 2) := by decide +kernel
theorem dX5_addPiece_77 : decode cX5_addPiece 77 = .ok (.iaload, 1) := by decide +kernel
theorem dX5_addPiece_78 : decode cX5_addPiece 78 = .ok (.iload_n 2, 1) := by decide +kernel
theorem dX5_addPiece_79 : decode cX5_addPiece 79 = .ok (.if_icmp .eq 144, 3) := by decide +kernel
theorem dX5_addPiece_82 : decode cX5_addPiece 82 = .ok (.aload_n 0, 1) := by decide +kernel
theorem dX5_addPiece_83 : decode cX5_addPiece 83 = .ok (.getfield 116, 3) := by decide +kernel
theorem dX5_addPiece_86 : decode cX5_addPiece 86 = .ok (.istore 5, 2) := by decide +kernel
theorem dX5_addPiece_88 : decode cX5_addPiece 88 = .ok (.iload 5, 2) := by decide +kernel
theorem dX5_addPiece_90 : decode cX5_addPiece 90 = .ok (.iload 4, 2) := by decide +kernel
theorem dX5_addPiece_92 : decode cX5_addPiece 92 = .ok (.if_icmp .le 83, 3) := by decide +kernel
theorem dX5_addPiece_95 : decode cX5_addPiece 95 = .ok (.aload_n 0, 1) := by decide +kernel
theorem dX5_addPiece_96 : decode cX5_addPiece 96 = .ok (.getfield 43, 3) := by decide +kernel
theorem dX5_addPiece_99 : decode cX5_addPiece 99 = .ok (.iload 5, 2) := by decide +kernel
theorem dX5_addPiece_101 : decode cX5_addPiece 101 = .ok (.aload_n 0, 1) := by decide +kernel
theorem dX5_addPiece_102 : decode cX5_addPiece 102 = .ok (.getfield 43, 3) := by decide +kernel
theorem dX5_addPiece_105 : decode cX5_addPiece 105 = .ok (.iload 5, 2) := by decide +kernel
theorem dX5_addPiece_107 : decode cX5_addPiece 107 = .ok (.iconst 1, 1) := by decide +kernel
theorem dX5_addPiece_108 : decode cX5_addPiece 108 = .ok (.isub, 1) := by decide +kernel
theorem dX5_addPiece_109 : decode cX5_addPiece 109 = .ok (.iaload, 1) := by decide +kernel
theorem dX5_addPiece_110 : decode cX5_addPiece 110 = .ok (.iastore, 1) := by decide +kernel
theorem dX5_addPiece_111 : decode cX5_addPiece 111 = .ok (.aload_n 0, 1) := by decide +kernel
theorem dX5_addPiece_112 : decode cX5_addPiece 112 = .ok (.getfield 46, 3) := by decide +kernel
theorem dX5_addPiece_115 : decode cX5_addPiece 115 = .ok (.iload 5, 2) := by decide +kernel
theorem dX5_addPiece_117 : decode cX5_addPiece 117 = .ok (.aload_n 0, 1) := by decide +kernel
theorem dX5_addPiece_118 : decode cX5_addPiece 118 = .ok (.getfield 46, 3) := by decide +kernel
theorem dX5_addPiece_121 : decode cX5_addPiece 121 = .ok (.iload 5, 2) := by decide +kernel
theorem dX5_addPiece_123 : decode cX5_addPiece 123 = .ok (.iconst 1, 1) := by decide +kernel
theorem dX5_addPiece_124 : decode cX5_addPiece 124 = .ok (.isub, 1) := by decide +kernel
theorem dX5_addPiece_125 : decode cX5_addPiece 125 = .ok (.iaload, 1) := by decide +kernel
theorem dX5_addPiece_126 : decode cX5_addPiece 126 = .ok (.iastore, 1) := by decide +kernel
theorem dX5_addPiece_127 : decode cX5_addPiece 127 = .ok (.aload_n 0, 1) := by decide +kernel
theorem dX5_addPiece_128 : decode cX5_addPiece 128 = .ok (.getfield 49, 3) := by decide +kernel
theorem dX5_addPiece_131 : decode cX5_addPiece 131 = .ok (.iconst 2, 1) := by decide +kernel
theorem dX5_addPiece_132 : decode cX5_addPiece 132 = .ok (.iload 5, 2) := by decide +kernel
theorem dX5_addPiece_134 : decode cX5_addPiece 134 = .ok (.imul, 1) := by decide +kernel
theorem dX5_addPiece_135 : decode cX5_addPiece 135 = .ok (.aload_n 0, 1) := by decide +kernel
theorem dX5_addPiece_136 : decode cX5_addPiece 136 = .ok (.getfield 49, 3) := by decide +kernel
theorem dX5_addPiece_139 : decode cX5_addPiece 139 = .ok (.iconst 2, 1) := by decide +kernel
theorem dX5_addPiece_140 : decode cX5_addPiece 140 = .ok (.iload 5, 2) := by decide +kernel
theorem dX5_addPiece_142 : decode cX5_addPiece 142 = .ok (.imul, 1) := by decide +kernel
theorem dX5_addPiece_143 : decode cX5_addPiece 143 = .ok (.iconst 2, 1) := by decide +kernel
theorem dX5_addPiece_144 : decode cX5_addPiece 144 = .ok (.isub, 1) := by decide +kernel
theorem dX5_addPiece_145 : decode cX5_addPiece 145 = .ok (.iaload, 1) := by decide +kernel
theorem dX5_addPiece_146 : decode cX5_addPiece 146 = .ok (.iastore, 1) := by decide +kernel
theorem dX5_addPiece_147 : decode cX5_addPiece 147 = .ok (.aload_n 0, 1) := by decide +kernel
theorem dX5_addPiece_148 : decode cX5_addPiece 148 = .ok (.getfield 49, 3) := by decide +kernel
theorem dX5_addPiece_151 : decode cX5_addPiece 151 = .ok (.iconst 2, 1) := by decide +kernel
theorem dX5_addPiece_152 : decode cX5_addPiece 152 = .ok (.iload 5, 2) := by decide +kernel
theorem dX5_addPiece_154 : decode cX5_addPiece 154 = .ok (.imul, 1) := by decide +kernel
theorem dX5_addPiece_155 : decode cX5_addPiece 155 = .ok (.iconst 1, 1) := by decide +kernel
theorem dX5_addPiece_156 : decode cX5_addPiece 156 = .ok (.iadd, 1) := by decide +kernel
theorem dX5_addPiece_157 : decode cX5_addPiece 157 = .ok (.aload_n 0, 1) := by decide +kernel
theorem dX5_addPiece_158 : decode cX5_addPiece 158 = .ok (.getfield 49, 3) := by decide +kernel
theorem dX5_addPiece_161 : decode cX5_addPiece 161 = .ok (.iconst 2, 1) := by decide +kernel
theorem dX5_addPiece_162 : decode cX5_addPiece 162 = .ok (.iload 5, 2) := by decide +kernel
theorem dX5_addPiece_164 : decode cX5_addPiece 164 = .ok (.imul, 1) := by decide +kernel
theorem dX5_addPiece_165 : decode cX5_addPiece 165 = .ok (.iconst 1, 1) := by decide +kernel
theorem dX5_addPiece_166 : decode cX5_addPiece 166 = .ok (.isub, 1) := by decide +kernel
theorem dX5_addPiece_167 : decode cX5_addPiece 167 = .ok (.iaload, 1) := by decide +kernel
theorem dX5_addPiece_168 : decode cX5_addPiece 168 = .ok (.iastore, 1) := by decide +kernel
theorem dX5_addPiece_169 : decode cX5_addPiece 169 = .ok (.iinc 5 (-1), 3) := by decide +kernel
theorem dX5_addPiece_172 : decode cX5_addPiece 172 = .ok (.goto (-84), 3) := by decide +kernel
theorem dX5_addPiece_175 : decode cX5_addPiece 175 = .ok (.aload_n 0, 1) := by decide +kernel
theorem dX5_addPiece_176 : decode cX5_addPiece 176 = .ok (.getfield 43, 3) := by decide +kernel
theorem dX5_addPiece_179 : decode cX5_addPiece 179 = .ok (.iload 4, 2) := by decide +kernel
theorem dX5_addPiece_181 : decode cX5_addPiece 181 = .ok (.iload_n 1, 1) := by decide +kernel
theorem dX5_addPiece_182 : decode cX5_addPiece 182 = .ok (.iastore, 1) := by decide +kernel
theorem dX5_addPiece_183 : decode cX5_addPiece 183 = .ok (.aload_n 0, 1) := by decide +kernel
theorem dX5_addPiece_184 : decode cX5_addPiece 184 = .ok (.getfield 46, 3) := by decide +kernel
theorem dX5_addPiece_187 : decode cX5_addPiece 187 = .ok (.iload 4, 2) := by decide +kernel
theorem dX5_addPiece_189 : decode cX5_addPiece 189 = .ok (.iload_n 2, 1) := by decide +kernel
theorem dX5_addPiece_190 : decode cX5_addPiece 190 = .ok (.iastore, 1) := by decide +kernel
theorem dX5_addPiece_191 : decode cX5_addPiece 191 = .ok (.aload_n 0, 1) := by decide +kernel
theorem dX5_addPiece_192 : decode cX5_addPiece 192 = .ok (.getfield 49, 3) := by decide +kernel
theorem dX5_addPiece_195 : decode cX5_addPiece 195 = .ok (.iconst 2, 1) := by decide +kernel
theorem dX5_addPiece_196 : decode cX5_addPiece 196 = .ok (.iload 4, 2) := by decide +kernel
theorem dX5_addPiece_198 : decode cX5_addPiece 198 = .ok (.imul, 1) := by decide +kernel
theorem dX5_addPiece_199 : decode cX5_addPiece 199 = .ok (.iconst 0, 1) := by decide +kernel
theorem dX5_addPiece_200 : decode cX5_addPiece 200 = .ok (.iastore, 1) := by decide +kernel
theorem dX5_addPiece_201 : decode cX5_addPiece 201 = .ok (.aload_n 0, 1) := by decide +kernel
theorem dX5_addPiece_202 : decode cX5_addPiece 202 = .ok (.getfield 49, 3) := by decide +kernel
theorem dX5_addPiece_205 : decode cX5_addPiece 205 = .ok (.iconst 2, 1) := by decide +kernel
theorem dX5_addPiece_206 : decode cX5_addPiece 206 = .ok (.iload 4, 2) := by decide +kernel
theorem dX5_addPiece_208 : decode cX5_addPiece 208 = .ok (.imul, 1) := by decide +kernel
theorem dX5_addPiece_209 : decode cX5_addPiece 209 = .ok (.iconst 1, 1) := by decide +kernel
theorem dX5_addPiece_210 : decode cX5_addPiece 210 = .ok (.iadd, 1) := by decide +kernel
theorem dX5_addPiece_211 : decode cX5_addPiece 211 = .ok (.iconst 0, 1) := by decide +kernel
theorem dX5_addPiece_212 : decode cX5_addPiece 212 = .ok (.iastore, 1) := by decide +kernel
theorem dX5_addPiece_213 : decode cX5_addPiece 213 = .ok (.aload_n 0, 1) := by decide +kernel
theorem dX5_addPiece_214 : decode cX5_addPiece 214 = .ok (.dup, 1) := by decide +kernel
theorem dX5_addPiece_215 : decode cX5_addPiece 215 = .ok (.getfield 116, 3) := by decide +kernel
theorem dX5_addPiece_218 : decode cX5_addPiece 218 = .ok (.iconst 1, 1) := by decide +kernel
theorem dX5_addPiece_219 : decode cX5_addPiece 219 = .ok (.iadd, 1) := by decide +kernel
theorem dX5_addPiece_220 : decode cX5_addPiece 220 = .ok (.putfield 116, 3) := by decide +kernel
theorem dX5_addPiece_223 : decode cX5_addPiece 223 = .ok (.aload_n 0, 1) := by decide +kernel
theorem dX5_addPiece_224 : decode cX5_addPiece 224 = .ok (.getfield 49, 3) := by decide +kernel
theorem dX5_addPiece_227 : decode cX5_addPiece 227 = .ok (.iconst 2, 1) := by decide +kernel
theorem dX5_addPiece_228 : decode cX5_addPiece 228 = .ok (.iload 4, 2) := by decide +kernel
theorem dX5_addPiece_230 : decode cX5_addPiece 230 = .ok (.imul, 1) := by decide +kernel
theorem dX5_addPiece_231 : decode cX5_addPiece 231 = .ok (.iload_n 3, 1) := by decide +kernel
theorem dX5_addPiece_232 : decode cX5_addPiece 232 = .ok (.iadd, 1) := by decide +kernel
theorem dX5_addPiece_233 : decode cX5_addPiece 233 = .ok (.dup2, 1) := by decide +kernel
theorem dX5_addPiece_234 : decode cX5_addPiece 234 = .ok (.iaload, 1) := by decide +kernel
theorem dX5_addPiece_235 : decode cX5_addPiece 235 = .ok (.iconst 1, 1) := by decide +kernel
theorem dX5_addPiece_236 : decode cX5_addPiece 236 = .ok (.iadd, 1) := by decide +kernel
theorem dX5_addPiece_237 : decode cX5_addPiece 237 = .ok (.iastore, 1) := by decide +kernel
theorem dX5_addPiece_238 : decode cX5_addPiece 238 = .ok (.return_, 1) := by decide +kernel
set_option maxRecDepth 20000 in
theorem ggX5_cut_X5_onEdge : GoodIn wsX5_cut wsX5_onEdge := goodIn_r _ [10, 11, 12, 13, 14, 15, 16, 17, 9, 18, 19, 20, 21, 30, 31, 32, 33, 34, 35, 36, 37, 38, 39, 40, 41, 42, 43, 44, 45, 46, 47, 48, 49, 50, 51, 52, 53, 54, 55, 56] (by decide +kernel) (by decide +kernel)
set_option maxRecDepth 20000 in
theorem gX5_cut_X5_onEdge : GoodIn wsX5_cut (wsV RX5 112 RX5 yX5_onEdge wsX5_onEdge) := goodIn_app (goodIn_of _ (by decide +kernel)) ggX5_cut_X5_onEdge
set_option maxRecDepth 20000 in
theorem ggX5_cut_X5_addPiece : GoodIn wsX5_cut wsX5_addPiece := goodIn_r _ [25, 26, 27, 28, 29, 30, 31, 32, 33, 34, 35, 36, 37, 38, 39, 40, 41, 42, 43, 44, 45, 46, 47, 48, 49, 50, 51, 52, 53, 54, 55, 56] (by decide +kernel) (by decide +kernel)
set_option maxRecDepth 20000 in
theorem gX5_cut_X5_addPiece : GoodIn wsX5_cut (wsV RX5 119 RX5 yX5_addPiece wsX5_addPiece) := goodIn_app (goodIn_of _ (by decide +kernel)) ggX5_cut_X5_addPiece
theorem dX5_cut_0 : decode cX5_cut 0 = .ok (.iconst (-1), 1) := by decide +kernel
theorem dX5_cut_1 : decode cX5_cut 1 = .ok (.istore_n 2, 1) := by decide +kernel
theorem dX5_cut_2 : decode cX5_cut 2 = .ok (.iconst 0, 1) := by decide +kernel
theorem dX5_cut_3 : decode cX5_cut 3 = .ok (.istore_n 3, 1) := by decide +kernel
theorem dX5_cut_4 : decode cX5_cut 4 = .ok (.iload_n 3, 1) := by decide +kernel
theorem dX5_cut_5 : decode cX5_cut 5 = .ok (.aload_n 0, 1) := by decide +kernel
theorem dX5_cut_6 : decode cX5_cut 6 = .ok (.getfield 67, 3) := by decide +kernel
theorem dX5_cut_9 : decode cX5_cut 9 = .ok (.if_icmp .ge 56, 3) := by decide +kernel
theorem dX5_cut_12 : decode cX5_cut 12 = .ok (.aload_n 0, 1) := by decide +kernel
theorem dX5_cut_13 : decode cX5_cut 13 = .ok (.iload_n 1, 1) := by decide +kernel
theorem dX5_cut_14 : decode cX5_cut 14 = .ok (.aload_n 0, 1) := by decide +kernel
theorem dX5_cut_15 : decode cX5_cut 15 = .ok (.getfield 34, 3) := by decide +kernel
theorem dX5_cut_18 : decode cX5_cut 18 = .ok (.iload_n 3, 1) := by decide +kernel
theorem dX5_cut_19 : decode cX5_cut 19 = .ok (.iaload, 1) := by decide +kernel
theorem dX5_cut_20 : decode cX5_cut 20 = .ok (.i2l, 1) := by decide +kernel
theorem dX5_cut_21 : decode cX5_cut 21 = .ok (.aload_n 0, 1) := by decide +kernel
theorem dX5_cut_22 : decode cX5_cut 22 = .ok (.getfield 37, 3) := by decide +kernel
theorem dX5_cut_25 : decode cX5_cut 25 = .ok (.iload_n 3, 1) := by decide +kernel
theorem dX5_cut_26 : decode cX5_cut 26 = .ok (.iaload, 1) := by decide +kernel
theorem dX5_cut_27 : decode cX5_cut 27 = .ok (.i2l, 1) := by decide +kernel
theorem dX5_cut_28 : decode cX5_cut 28 = .ok (.aload_n 0, 1) := by decide +kernel
theorem dX5_cut_29 : decode cX5_cut 29 = .ok (.getfield 40, 3) := by decide +kernel
theorem dX5_cut_32 : decode cX5_cut 32 = .ok (.iload_n 3, 1) := by decide +kernel
theorem dX5_cut_33 : decode cX5_cut 33 = .ok (.iaload, 1) := by decide +kernel
theorem dX5_cut_34 : decode cX5_cut 34 = .ok (.i2l, 1) := by decide +kernel
theorem dX5_cut_35 : decode cX5_cut 35 = .ok (.invokevirtual 112, 3) := by decide +kernel
theorem dX5_cut_38 : decode cX5_cut 38 = .ok (.ifCond .eq 21, 3) := by decide +kernel
theorem dX5_cut_41 : decode cX5_cut 41 = .ok (.iload_n 2, 1) := by decide +kernel
theorem dX5_cut_42 : decode cX5_cut 42 = .ok (.ifCond .lt 15, 3) := by decide +kernel
theorem dX5_cut_45 : decode cX5_cut 45 = .ok (.aload_n 0, 1) := by decide +kernel
theorem dX5_cut_46 : decode cX5_cut 46 = .ok (.iload_n 2, 1) := by decide +kernel
theorem dX5_cut_47 : decode cX5_cut 47 = .ok (.iload_n 3, 1) := by decide +kernel
theorem dX5_cut_48 : decode cX5_cut 48 = .ok (.aload_n 0, 1) := by decide +kernel
theorem dX5_cut_49 : decode cX5_cut 49 = .ok (.getfield 31, 3) := by decide +kernel
theorem dX5_cut_52 : decode cX5_cut 52 = .ok (.iload_n 1, 1) := by decide +kernel
theorem dX5_cut_53 : decode cX5_cut 53 = .ok (.iaload, 1) := by decide +kernel
theorem dX5_cut_54 : decode cX5_cut 54 = .ok (.invokevirtual 119, 3) := by decide +kernel
theorem dX5_cut_57 : decode cX5_cut 57 = .ok (.iload_n 3, 1) := by decide +kernel
theorem dX5_cut_58 : decode cX5_cut 58 = .ok (.istore_n 2, 1) := by decide +kernel
theorem dX5_cut_59 : decode cX5_cut 59 = .ok (.iinc 3 1, 3) := by decide +kernel
theorem dX5_cut_62 : decode cX5_cut 62 = .ok (.goto (-58), 3) := by decide +kernel
theorem dX5_cut_65 : decode cX5_cut 65 = .ok (.return_, 1) := by decide +kernel
set_option maxRecDepth 20000 in
theorem ggX5_above_X5_side : GoodIn wsX5_above wsX5_side := goodIn_r _ [9, 4, 3, 10, 11, 12, 13, 14, 15, 16, 17, 18, 19, 20, 21, 22, 23, 24, 25, 26, 27, 28, 29, 30, 31, 32, 33, 34, 35, 36, 37, 38] (by decide +kernel) (by decide +kernel)
set_option maxRecDepth 20000 in
theorem gX5_above_X5_side : GoodIn wsX5_above (wsV RX5 95 RX5 yX5_side wsX5_side) := goodIn_app (goodIn_of _ (by decide +kernel)) ggX5_above_X5_side
theorem dX5_above_0 : decode cX5_above 0 = .ok (.iconst 0, 1) := by decide +kernel
theorem dX5_above_1 : decode cX5_above 1 = .ok (.istore 8, 2) := by decide +kernel
theorem dX5_above_3 : decode cX5_above 3 = .ok (.iconst 0, 1) := by decide +kernel
theorem dX5_above_4 : decode cX5_above 4 = .ok (.istore 9, 2) := by decide +kernel
theorem dX5_above_6 : decode cX5_above 6 = .ok (.iload 9, 2) := by decide +kernel
theorem dX5_above_8 : decode cX5_above 8 = .ok (.aload_n 0, 1) := by decide +kernel
theorem dX5_above_9 : decode cX5_above 9 = .ok (.getfield 92, 3) := by decide +kernel
theorem dX5_above_12 : decode cX5_above 12 = .ok (.if_icmp .ge 90, 3) := by decide +kernel
theorem dX5_above_15 : decode cX5_above 15 = .ok (.aload_n 0, 1) := by decide +kernel
theorem dX5_above_16 : decode cX5_above 16 = .ok (.getfield 31, 3) := by decide +kernel
theorem dX5_above_19 : decode cX5_above 19 = .ok (.iload 9, 2) := by decide +kernel
theorem dX5_above_21 : decode cX5_above 21 = .ok (.iaload, 1) := by decide +kernel
theorem dX5_above_22 : decode cX5_above 22 = .ok (.iload_n 1, 1) := by decide +kernel
theorem dX5_above_23 : decode cX5_above 23 = .ok (.if_icmp .ne 39, 3) := by decide +kernel
theorem dX5_above_26 : decode cX5_above 26 = .ok (.aload_n 0, 1) := by decide +kernel
theorem dX5_above_27 : decode cX5_above 27 = .ok (.getfield 19, 3) := by decide +kernel
theorem dX5_above_30 : decode cX5_above 30 = .ok (.iload 9, 2) := by decide +kernel
theorem dX5_above_32 : decode cX5_above 32 = .ok (.iaload, 1) := by decide +kernel
theorem dX5_above_33 : decode cX5_above 33 = .ok (.i2l, 1) := by decide +kernel
theorem dX5_above_34 : decode cX5_above 34 = .ok (.lload 6, 2) := by decide +kernel
theorem dX5_above_36 : decode cX5_above 36 = .ok (.lmul, 1) := by decide +kernel
theorem dX5_above_37 : decode cX5_above 37 = .ok (.lload_n 2, 1) := by decide +kernel
theorem dX5_above_38 : decode cX5_above 38 = .ok (.lcmp, 1) := by decide +kernel
theorem dX5_above_39 : decode cX5_above 39 = .ok (.ifCond .gt 23, 3) := by decide +kernel
theorem dX5_above_42 : decode cX5_above 42 = .ok (.lload_n 2, 1) := by decide +kernel
theorem dX5_above_43 : decode cX5_above 43 = .ok (.aload_n 0, 1) := by decide +kernel
theorem dX5_above_44 : decode cX5_above 44 = .ok (.getfield 25, 3) := by decide +kernel
theorem dX5_above_47 : decode cX5_above 47 = .ok (.iload 9, 2) := by decide +kernel
theorem dX5_above_49 : decode cX5_above 49 = .ok (.iaload, 1) := by decide +kernel
theorem dX5_above_50 : decode cX5_above 50 = .ok (.i2l, 1) := by decide +kernel
theorem dX5_above_51 : decode cX5_above 51 = .ok (.lload 6, 2) := by decide +kernel
theorem dX5_above_53 : decode cX5_above 53 = .ok (.lmul, 1) := by decide +kernel
theorem dX5_above_54 : decode cX5_above 54 = .ok (.lcmp, 1) := by decide +kernel
theorem dX5_above_55 : decode cX5_above 55 = .ok (.ifCond .ge 7, 3) := by decide +kernel
theorem dX5_above_58 : decode cX5_above 58 = .ok (.iconst 1, 1) := by decide +kernel
theorem dX5_above_59 : decode cX5_above 59 = .ok (.goto 4, 3) := by decide +kernel
theorem dX5_above_62 : decode cX5_above 62 = .ok (.iconst 0, 1) := by decide +kernel
theorem dX5_above_63 : decode cX5_above 63 = .ok (.istore 10, 2) := by decide +kernel
theorem dX5_above_65 : decode cX5_above 65 = .ok (.iload 8, 2) := by decide +kernel
theorem dX5_above_67 : decode cX5_above 67 = .ok (.iload 10, 2) := by decide +kernel
theorem dX5_above_69 : decode cX5_above 69 = .ok (.ifCond .eq 23, 3) := by decide +kernel
theorem dX5_above_72 : decode cX5_above 72 = .ok (.aload_n 0, 1) := by decide +kernel
theorem dX5_above_73 : decode cX5_above 73 = .ok (.iload 9, 2) := by decide +kernel
theorem dX5_above_75 : decode cX5_above 75 = .ok (.lload_n 2, 1) := by decide +kernel
theorem dX5_above_76 : decode cX5_above 76 = .ok (.lload 4, 2) := by decide +kernel
theorem dX5_above_78 : decode cX5_above 78 = .ok (.lload 6, 2) := by decide +kernel
theorem dX5_above_80 : decode cX5_above 80 = .ok (.invokevirtual 95, 3) := by decide +kernel
theorem dX5_above_83 : decode cX5_above 83 = .ok (.lconst 0, 1) := by decide +kernel
theorem dX5_above_84 : decode cX5_above 84 = .ok (.lcmp, 1) := by decide +kernel
theorem dX5_above_85 : decode cX5_above 85 = .ok (.ifCond .ge 7, 3) := by decide +kernel
theorem dX5_above_88 : decode cX5_above 88 = .ok (.iconst 1, 1) := by decide +kernel
theorem dX5_above_89 : decode cX5_above 89 = .ok (.goto 4, 3) := by decide +kernel
theorem dX5_above_92 : decode cX5_above 92 = .ok (.iconst 0, 1) := by decide +kernel
theorem dX5_above_93 : decode cX5_above 93 = .ok (.iadd, 1) := by decide +kernel
theorem dX5_above_94 : decode cX5_above 94 = .ok (.istore 8, 2) := by decide +kernel
theorem dX5_above_96 : decode cX5_above 96 = .ok (.iinc 9 1, 3) := by decide +kernel
theorem dX5_above_99 : decode cX5_above 99 = .ok (.goto (-93), 3) := by decide +kernel
theorem dX5_above_102 : decode cX5_above 102 = .ok (.iload 8, 2) := by decide +kernel
theorem dX5_above_104 : decode cX5_above 104 = .ok (.ireturn, 1) := by decide +kernel
set_option maxRecDepth 20000 in
theorem ggX5_beside_X5_side : GoodIn wsX5_beside wsX5_side := goodIn_r _ [9, 10, 11, 2, 3, 12, 13, 14, 15, 16, 17, 18, 19, 20, 21, 22, 23, 24, 25, 26, 27, 28, 29, 30, 31, 32, 33, 34, 35, 36, 37, 38] (by decide +kernel) (by decide +kernel)
set_option maxRecDepth 20000 in
theorem gX5_beside_X5_side : GoodIn wsX5_beside (wsV RX5 95 RX5 yX5_side wsX5_side) := goodIn_app (goodIn_of _ (by decide +kernel)) ggX5_beside_X5_side
theorem dX5_beside_0 : decode cX5_beside 0 = .ok (.iconst 0, 1) := by decide +kernel
theorem dX5_beside_1 : decode cX5_beside 1 = .ok (.istore 8, 2) := by decide +kernel
theorem dX5_beside_3 : decode cX5_beside 3 = .ok (.iconst 0, 1) := by decide +kernel
theorem dX5_beside_4 : decode cX5_beside 4 = .ok (.istore 9, 2) := by decide +kernel
theorem dX5_beside_6 : decode cX5_beside 6 = .ok (.iload 9, 2) := by decide +kernel
theorem dX5_beside_8 : decode cX5_beside 8 = .ok (.aload_n 0, 1) := by decide +kernel
theorem dX5_beside_9 : decode cX5_beside 9 = .ok (.getfield 92, 3) := by decide +kernel
theorem dX5_beside_12 : decode cX5_beside 12 = .ok (.if_icmp .ge 194, 3) := by decide +kernel
theorem dX5_beside_15 : decode cX5_beside 15 = .ok (.aload_n 0, 1) := by decide +kernel
theorem dX5_beside_16 : decode cX5_beside 16 = .ok (.getfield 22, 3) := by decide +kernel
theorem dX5_beside_19 : decode cX5_beside 19 = .ok (.iload 9, 2) := by decide +kernel
theorem dX5_beside_21 : decode cX5_beside 21 = .ok (.iaload, 1) := by decide +kernel
theorem dX5_beside_22 : decode cX5_beside 22 = .ok (.aload_n 0, 1) := by decide +kernel
theorem dX5_beside_23 : decode cX5_beside 23 = .ok (.getfield 28, 3) := by decide +kernel
theorem dX5_beside_26 : decode cX5_beside 26 = .ok (.iload 9, 2) := by decide +kernel
theorem dX5_beside_28 : decode cX5_beside 28 = .ok (.iaload, 1) := by decide +kernel
theorem dX5_beside_29 : decode cX5_beside 29 = .ok (.if_icmp .ge 13, 3) := by decide +kernel
theorem dX5_beside_32 : decode cX5_beside 32 = .ok (.aload_n 0, 1) := by decide +kernel
theorem dX5_beside_33 : decode cX5_beside 33 = .ok (.getfield 22, 3) := by decide +kernel
theorem dX5_beside_36 : decode cX5_beside 36 = .ok (.iload 9, 2) := by decide +kernel
theorem dX5_beside_38 : decode cX5_beside 38 = .ok (.iaload, 1) := by decide +kernel
theorem dX5_beside_39 : decode cX5_beside 39 = .ok (.goto 10, 3) := by decide +kernel
theorem dX5_beside_42 : decode cX5_beside 42 = .ok (.aload_n 0, 1) := by decide +kernel
theorem dX5_beside_43 : decode cX5_beside 43 = .ok (.getfield 28, 3) := by decide +kernel
theorem dX5_beside_46 : decode cX5_beside 46 = .ok (.iload 9, 2) := by decide +kernel
theorem dX5_beside_48 : decode cX5_beside 48 = .ok (.iaload, 1) := by decide +kernel
theorem dX5_beside_49 : decode cX5_beside 49 = .ok (.istore 10, 2) := by decide +kernel
theorem dX5_beside_51 : decode cX5_beside 51 = .ok (.aload_n 0, 1) := by decide +kernel
theorem dX5_beside_52 : decode cX5_beside 52 = .ok (.getfield 22, 3) := by decide +kernel
theorem dX5_beside_55 : decode cX5_beside 55 = .ok (.iload 9, 2) := by decide +kernel
theorem dX5_beside_57 : decode cX5_beside 57 = .ok (.iaload, 1) := by decide +kernel
theorem dX5_beside_58 : decode cX5_beside 58 = .ok (.aload_n 0, 1) := by decide +kernel
theorem dX5_beside_59 : decode cX5_beside 59 = .ok (.getfield 28, 3) := by decide +kernel
theorem dX5_beside_62 : decode cX5_beside 62 = .ok (.iload 9, 2) := by decide +kernel
theorem dX5_beside_64 : decode cX5_beside 64 = .ok (.iaload, 1) := by decide +kernel
theorem dX5_beside_65 : decode cX5_beside 65 = .ok (.if_icmp .ge 13, 3) := by decide +kernel
theorem dX5_beside_68 : decode cX5_beside 68 = .ok (.aload_n 0, 1) := by decide +kernel
theorem dX5_beside_69 : decode cX5_beside 69 = .ok (.getfield 28, 3) := by decide +kernel
theorem dX5_beside_72 : decode cX5_beside 72 = .ok (.iload 9, 2) := by decide +kernel
theorem dX5_beside_74 : decode cX5_beside 74 = .ok (.iaload, 1) := by decide +kernel
theorem dX5_beside_75 : decode cX5_beside 75 = .ok (.goto 10, 3) := by decide +kernel
theorem dX5_beside_78 : decode cX5_beside 78 = .ok (.aload_n 0, 1) := by decide +kernel
theorem dX5_beside_79 : decode cX5_beside 79 = .ok (.getfield 22, 3) := by decide +kernel
theorem dX5_beside_82 : decode cX5_beside 82 = .ok (.iload 9, 2) := by decide +kernel
theorem dX5_beside_84 : decode cX5_beside 84 = .ok (.iaload, 1) := by decide +kernel
theorem dX5_beside_85 : decode cX5_beside 85 = .ok (.istore 11, 2) := by decide +kernel
theorem dX5_beside_87 : decode cX5_beside 87 = .ok (.aload_n 0, 1) := by decide +kernel
theorem dX5_beside_88 : decode cX5_beside 88 = .ok (.getfield 31, 3) := by decide +kernel
theorem dX5_beside_91 : decode cX5_beside 91 = .ok (.iload 9, 2) := by decide +kernel
theorem dX5_beside_93 : decode cX5_beside 93 = .ok (.iaload, 1) := by decide +kernel
theorem dX5_beside_94 : decode cX5_beside 94 = .ok (.iload_n 1, 1) := by decide +kernel
theorem dX5_beside_95 : decode cX5_beside 95 = .ok (.if_icmp .ne 31, 3) := by decide +kernel
theorem dX5_beside_98 : decode cX5_beside 98 = .ok (.iload 10, 2) := by decide +kernel
theorem dX5_beside_100 : decode cX5_beside 100 = .ok (.i2l, 1) := by decide +kernel
theorem dX5_beside_101 : decode cX5_beside 101 = .ok (.lload 6, 2) := by decide +kernel
theorem dX5_beside_103 : decode cX5_beside 103 = .ok (.lmul, 1) := by decide +kernel
theorem dX5_beside_104 : decode cX5_beside 104 = .ok (.lload 4, 2) := by decide +kernel
theorem dX5_beside_106 : decode cX5_beside 106 = .ok (.lcmp, 1) := by decide +kernel
theorem dX5_beside_107 : decode cX5_beside 107 = .ok (.ifCond .gt 19, 3) := by decide +kernel
theorem dX5_beside_110 : decode cX5_beside 110 = .ok (.lload 4, 2) := by decide +kernel
theorem dX5_beside_112 : decode cX5_beside 112 = .ok (.iload 11, 2) := by decide +kernel
theorem dX5_beside_114 : decode cX5_beside 114 = .ok (.i2l, 1) := by decide +kernel
theorem dX5_beside_115 : decode cX5_beside 115 = .ok (.lload 6, 2) := by decide +kernel
theorem dX5_beside_117 : decode cX5_beside 117 = .ok (.lmul, 1) := by decide +kernel
theorem dX5_beside_118 : decode cX5_beside 118 = .ok (.lcmp, 1) := by decide +kernel
theorem dX5_beside_119 : decode cX5_beside 119 = .ok (.ifCond .ge 7, 3) := by decide +kernel
theorem dX5_beside_122 : decode cX5_beside 122 = .ok (.iconst 1, 1) := by decide +kernel
theorem dX5_beside_123 : decode cX5_beside 123 = .ok (.goto 4, 3) := by decide +kernel
theorem dX5_beside_126 : decode cX5_beside 126 = .ok (.iconst 0, 1) := by decide +kernel
theorem dX5_beside_127 : decode cX5_beside 127 = .ok (.istore 12, 2) := by decide +kernel
theorem dX5_beside_129 : decode cX5_beside 129 = .ok (.iload 12, 2) := by decide +kernel
theorem dX5_beside_131 : decode cX5_beside 131 = .ok (.ifCond .eq 17, 3) := by decide +kernel
theorem dX5_beside_134 : decode cX5_beside 134 = .ok (.aload_n 0, 1) := by decide +kernel
theorem dX5_beside_135 : decode cX5_beside 135 = .ok (.iload 9, 2) := by decide +kernel
theorem dX5_beside_137 : decode cX5_beside 137 = .ok (.lload_n 2, 1) := by decide +kernel
theorem dX5_beside_138 : decode cX5_beside 138 = .ok (.lload 4, 2) := by decide +kernel
theorem dX5_beside_140 : decode cX5_beside 140 = .ok (.lload 6, 2) := by decide +kernel
theorem dX5_beside_142 : decode cX5_beside 142 = .ok (.invokevirtual 95, 3) := by decide +kernel
theorem dX5_beside_145 : decode cX5_beside 145 = .ok (.goto 4, 3) := by decide +kernel
theorem dX5_beside_148 : decode cX5_beside 148 = .ok (.lconst 0, 1) := by decide +kernel
theorem dX5_beside_149 : decode cX5_beside 149 = .ok (.lstore 13, 2) := by decide +kernel
theorem dX5_beside_151 : decode cX5_beside 151 = .ok (.iload 8, 2) := by decide +kernel
theorem dX5_beside_153 : decode cX5_beside 153 = .ok (.iload 12, 2) := by decide +kernel
theorem dX5_beside_155 : decode cX5_beside 155 = .ok (.ifCond .eq 41, 3) := by decide +kernel
theorem dX5_beside_158 : decode cX5_beside 158 = .ok (.aload_n 0, 1) := by decide +kernel
theorem dX5_beside_159 : decode cX5_beside 159 = .ok (.getfield 22, 3) := by decide +kernel
theorem dX5_beside_162 : decode cX5_beside 162 = .ok (.iload 9, 2) := by decide +kernel
theorem dX5_beside_164 : decode cX5_beside 164 = .ok (.iaload, 1) := by decide +kernel
theorem dX5_beside_165 : decode cX5_beside 165 = .ok (.aload_n 0, 1) := by decide +kernel
theorem dX5_beside_166 : decode cX5_beside 166 = .ok (.getfield 28, 3) := by decide +kernel
theorem dX5_beside_169 : decode cX5_beside 169 = .ok (.iload 9, 2) := by decide +kernel
theorem dX5_beside_171 : decode cX5_beside 171 = .ok (.iaload, 1) := by decide +kernel
theorem dX5_beside_172 : decode cX5_beside 172 = .ok (.if_icmp .ge 13, 3) := by decide +kernel
theorem dX5_beside_175 : decode cX5_beside 175 = .ok (.lload 13, 2) := by decide +kernel
theorem dX5_beside_177 : decode cX5_beside 177 = .ok (.lconst 0, 1) := by decide +kernel
theorem dX5_beside_178 : decode cX5_beside 178 = .ok (.lcmp, 1) := by decide +kernel
theorem dX5_beside_179 : decode cX5_beside 179 = .ok (.ifCond .le 17, 3) := by decide +kernel
theorem dX5_beside_182 : decode cX5_beside 182 = .ok (.goto 10, 3) := by decide +kernel
theorem dX5_beside_185 : decode cX5_beside 185 = .ok (.lload 13, 2) := by decide +kernel
theorem dX5_beside_187 : decode cX5_beside 187 = .ok (.lconst 0, 1) := by decide +kernel
theorem dX5_beside_188 : decode cX5_beside 188 = .ok (.lcmp, 1) := by decide +kernel
theorem dX5_beside_189 : decode cX5_beside 189 = .ok (.ifCond .ge 7, 3) := by decide +kernel
theorem dX5_beside_192 : decode cX5_beside 192 = .ok (.iconst 1, 1) := by decide +kernel
theorem dX5_beside_193 : decode cX5_beside 193 = .ok (.goto 4, 3) := by decide +kernel
theorem dX5_beside_196 : decode cX5_beside 196 = .ok (.iconst 0, 1) := by decide +kernel
theorem dX5_beside_197 : decode cX5_beside 197 = .ok (.iadd, 1) := by decide +kernel
theorem dX5_beside_198 : decode cX5_beside 198 = .ok (.istore 8, 2) := by decide +kernel
theorem dX5_beside_200 : decode cX5_beside 200 = .ok (.iinc 9 1, 3) := by decide +kernel
theorem dX5_beside_203 : decode cX5_beside 203 = .ok (.goto (-197), 3) := by decide +kernel
theorem dX5_beside_206 : decode cX5_beside 206 = .ok (.iload 8, 2) := by decide +kernel
theorem dX5_beside_208 : decode cX5_beside 208 = .ok (.ireturn, 1) := by decide +kernel
set_option maxRecDepth 20000 in
theorem ggX5_tell_X5_beside : GoodIn wsX5_tell wsX5_beside := goodIn_r _ [14, 15, 16, 17, 18, 19, 20, 21, 13, 22, 23, 24, 29, 30, 31, 32, 33, 34, 35, 36, 37, 38, 39, 40, 41, 42, 43, 44, 45, 46, 47, 48, 49, 50, 51, 52, 53, 54, 55] (by decide +kernel) (by decide +kernel)
set_option maxRecDepth 20000 in
theorem gX5_tell_X5_beside : GoodIn wsX5_tell (wsV RX5 125 RX5 yX5_beside wsX5_beside) := goodIn_app (goodIn_of _ (by decide +kernel)) ggX5_tell_X5_beside
set_option maxRecDepth 20000 in
theorem ggX5_tell_X5_above : GoodIn wsX5_tell wsX5_above := goodIn_r _ [28, 15, 18, 24, 23, 19, 20, 21, 13, 22, 16, 17, 29, 30, 31, 32, 33, 34, 35, 36, 37, 38, 39, 40, 41, 42, 43, 44, 45, 46, 47, 48, 49, 50, 51, 52, 53, 54, 55] (by decide +kernel) (by decide +kernel)
set_option maxRecDepth 20000 in
theorem gX5_tell_X5_above : GoodIn wsX5_tell (wsV RX5 129 RX5 yX5_above wsX5_above) := goodIn_app (goodIn_of _ (by decide +kernel)) ggX5_tell_X5_above
theorem dX5_tell_0 : decode cX5_tell 0 = .ok (.aload_n 0, 1) := by decide +kernel
theorem dX5_tell_1 : decode cX5_tell 1 = .ok (.getfield 43, 3) := by decide +kernel
theorem dX5_tell_4 : decode cX5_tell 4 = .ok (.iload_n 1, 1) := by decide +kernel
theorem dX5_tell_5 : decode cX5_tell 5 = .ok (.iaload, 1) := by decide +kernel
theorem dX5_tell_6 : decode cX5_tell 6 = .ok (.istore_n 2, 1) := by decide +kernel
theorem dX5_tell_7 : decode cX5_tell 7 = .ok (.aload_n 0, 1) := by decide +kernel
theorem dX5_tell_8 : decode cX5_tell 8 = .ok (.getfield 46, 3) := by decide +kernel
theorem dX5_tell_11 : decode cX5_tell 11 = .ok (.iload_n 1, 1) := by decide +kernel
theorem dX5_tell_12 : decode cX5_tell 12 = .ok (.iaload, 1) := by decide +kernel
theorem dX5_tell_13 : decode cX5_tell 13 = .ok (.istore_n 3, 1) := by decide +kernel
theorem dX5_tell_14 : decode cX5_tell 14 = .ok (.ldc2_w 123, 3) := by decide +kernel
theorem dX5_tell_17 : decode cX5_tell 17 = .ok (.aload_n 0, 1) := by decide +kernel
theorem dX5_tell_18 : decode cX5_tell 18 = .ok (.getfield 40, 3) := by decide +kernel
theorem dX5_tell_21 : decode cX5_tell 21 = .ok (.iload_n 2, 1) := by decide +kernel
theorem dX5_tell_22 : decode cX5_tell 22 = .ok (.iaload, 1) := by decide +kernel
theorem dX5_tell_23 : decode cX5_tell 23 = .ok (.i2l, 1) := by decide +kernel
theorem dX5_tell_24 : decode cX5_tell 24 = .ok (.lmul, 1) := by decide +kernel
theorem dX5_tell_25 : decode cX5_tell 25 = .ok (.aload_n 0, 1) := by decide +kernel
theorem dX5_tell_26 : decode cX5_tell 26 = .ok (.getfield 40, 3) := by decide +kernel
theorem dX5_tell_29 : decode cX5_tell 29 = .ok (.iload_n 3, 1) := by decide +kernel
theorem dX5_tell_30 : decode cX5_tell 30 = .ok (.iaload, 1) := by decide +kernel
theorem dX5_tell_31 : decode cX5_tell 31 = .ok (.i2l, 1) := by decide +kernel
theorem dX5_tell_32 : decode cX5_tell 32 = .ok (.lmul, 1) := by decide +kernel
theorem dX5_tell_33 : decode cX5_tell 33 = .ok (.lstore 4, 2) := by decide +kernel
theorem dX5_tell_35 : decode cX5_tell 35 = .ok (.aload_n 0, 1) := by decide +kernel
theorem dX5_tell_36 : decode cX5_tell 36 = .ok (.getfield 34, 3) := by decide +kernel
theorem dX5_tell_39 : decode cX5_tell 39 = .ok (.iload_n 2, 1) := by decide +kernel
theorem dX5_tell_40 : decode cX5_tell 40 = .ok (.iaload, 1) := by decide +kernel
theorem dX5_tell_41 : decode cX5_tell 41 = .ok (.i2l, 1) := by decide +kernel
theorem dX5_tell_42 : decode cX5_tell 42 = .ok (.aload_n 0, 1) := by decide +kernel
theorem dX5_tell_43 : decode cX5_tell 43 = .ok (.getfield 40, 3) := by decide +kernel
theorem dX5_tell_46 : decode cX5_tell 46 = .ok (.iload_n 3, 1) := by decide +kernel
theorem dX5_tell_47 : decode cX5_tell 47 = .ok (.iaload, 1) := by decide +kernel
theorem dX5_tell_48 : decode cX5_tell 48 = .ok (.i2l, 1) := by decide +kernel
theorem dX5_tell_49 : decode cX5_tell 49 = .ok (.lmul, 1) := by decide +kernel
theorem dX5_tell_50 : decode cX5_tell 50 = .ok (.aload_n 0, 1) := by decide +kernel
theorem dX5_tell_51 : decode cX5_tell 51 = .ok (.getfield 34, 3) := by decide +kernel
theorem dX5_tell_54 : decode cX5_tell 54 = .ok (.iload_n 3, 1) := by decide +kernel
theorem dX5_tell_55 : decode cX5_tell 55 = .ok (.iaload, 1) := by decide +kernel
theorem dX5_tell_56 : decode cX5_tell 56 = .ok (.i2l, 1) := by decide +kernel
theorem dX5_tell_57 : decode cX5_tell 57 = .ok (.aload_n 0, 1) := by decide +kernel
theorem dX5_tell_58 : decode cX5_tell 58 = .ok (.getfield 40, 3) := by decide +kernel
theorem dX5_tell_61 : decode cX5_tell 61 = .ok (.iload_n 2, 1) := by decide +kernel
theorem dX5_tell_62 : decode cX5_tell 62 = .ok (.iaload, 1) := by decide +kernel
theorem dX5_tell_63 : decode cX5_tell 63 = .ok (.i2l, 1) := by decide +kernel
theorem dX5_tell_64 : decode cX5_tell 64 = .ok (.lmul, 1) := by decide +kernel
theorem dX5_tell_65 : decode cX5_tell 65 = .ok (.ladd, 1) := by decide +kernel
theorem dX5_tell_66 : decode cX5_tell 66 = .ok (.lstore 6, 2) := by decide +kernel
theorem dX5_tell_68 : decode cX5_tell 68 = .ok (.aload_n 0, 1) := by decide +kernel
theorem dX5_tell_69 : decode cX5_tell 69 = .ok (.getfield 37, 3) := by decide +kernel
theorem dX5_tell_72 : decode cX5_tell 72 = .ok (.iload_n 2, 1) := by decide +kernel
theorem dX5_tell_73 : decode cX5_tell 73 = .ok (.iaload, 1) := by decide +kernel
theorem dX5_tell_74 : decode cX5_tell 74 = .ok (.i2l, 1) := by decide +kernel
theorem dX5_tell_75 : decode cX5_tell 75 = .ok (.aload_n 0, 1) := by decide +kernel
theorem dX5_tell_76 : decode cX5_tell 76 = .ok (.getfield 40, 3) := by decide +kernel
theorem dX5_tell_79 : decode cX5_tell 79 = .ok (.iload_n 3, 1) := by decide +kernel
theorem dX5_tell_80 : decode cX5_tell 80 = .ok (.iaload, 1) := by decide +kernel
theorem dX5_tell_81 : decode cX5_tell 81 = .ok (.i2l, 1) := by decide +kernel
theorem dX5_tell_82 : decode cX5_tell 82 = .ok (.lmul, 1) := by decide +kernel
theorem dX5_tell_83 : decode cX5_tell 83 = .ok (.aload_n 0, 1) := by decide +kernel
theorem dX5_tell_84 : decode cX5_tell 84 = .ok (.getfield 37, 3) := by decide +kernel
theorem dX5_tell_87 : decode cX5_tell 87 = .ok (.iload_n 3, 1) := by decide +kernel
theorem dX5_tell_88 : decode cX5_tell 88 = .ok (.iaload, 1) := by decide +kernel
theorem dX5_tell_89 : decode cX5_tell 89 = .ok (.i2l, 1) := by decide +kernel
theorem dX5_tell_90 : decode cX5_tell 90 = .ok (.aload_n 0, 1) := by decide +kernel
theorem dX5_tell_91 : decode cX5_tell 91 = .ok (.getfield 40, 3) := by decide +kernel
theorem dX5_tell_94 : decode cX5_tell 94 = .ok (.iload_n 2, 1) := by decide +kernel
theorem dX5_tell_95 : decode cX5_tell 95 = .ok (.iaload, 1) := by decide +kernel
theorem dX5_tell_96 : decode cX5_tell 96 = .ok (.i2l, 1) := by decide +kernel
theorem dX5_tell_97 : decode cX5_tell 97 = .ok (.lmul, 1) := by decide +kernel
theorem dX5_tell_98 : decode cX5_tell 98 = .ok (.ladd, 1) := by decide +kernel
theorem dX5_tell_99 : decode cX5_tell 99 = .ok (.lstore 8, 2) := by decide +kernel
theorem dX5_tell_101 : decode cX5_tell 101 = .ok (.aload_n 0, 1) := by decide +kernel
theorem dX5_tell_102 : decode cX5_tell 102 = .ok (.getfield 34, 3) := by decide +kernel
theorem dX5_tell_105 : decode cX5_tell 105 = .ok (.iload_n 2, 1) := by decide +kernel
theorem dX5_tell_106 : decode cX5_tell 106 = .ok (.iaload, 1) := by decide +kernel
theorem dX5_tell_107 : decode cX5_tell 107 = .ok (.i2l, 1) := by decide +kernel
theorem dX5_tell_108 : decode cX5_tell 108 = .ok (.aload_n 0, 1) := by decide +kernel
theorem dX5_tell_109 : decode cX5_tell 109 = .ok (.getfield 40, 3) := by decide +kernel
theorem dX5_tell_112 : decode cX5_tell 112 = .ok (.iload_n 3, 1) := by decide +kernel
theorem dX5_tell_113 : decode cX5_tell 113 = .ok (.iaload, 1) := by decide +kernel
theorem dX5_tell_114 : decode cX5_tell 114 = .ok (.i2l, 1) := by decide +kernel
theorem dX5_tell_115 : decode cX5_tell 115 = .ok (.lmul, 1) := by decide +kernel
theorem dX5_tell_116 : decode cX5_tell 116 = .ok (.aload_n 0, 1) := by decide +kernel
theorem dX5_tell_117 : decode cX5_tell 117 = .ok (.getfield 34, 3) := by decide +kernel
theorem dX5_tell_120 : decode cX5_tell 120 = .ok (.iload_n 3, 1) := by decide +kernel
theorem dX5_tell_121 : decode cX5_tell 121 = .ok (.iaload, 1) := by decide +kernel
theorem dX5_tell_122 : decode cX5_tell 122 = .ok (.i2l, 1) := by decide +kernel
theorem dX5_tell_123 : decode cX5_tell 123 = .ok (.aload_n 0, 1) := by decide +kernel
theorem dX5_tell_124 : decode cX5_tell 124 = .ok (.getfield 40, 3) := by decide +kernel
theorem dX5_tell_127 : decode cX5_tell 127 = .ok (.iload_n 2, 1) := by decide +kernel
theorem dX5_tell_128 : decode cX5_tell 128 = .ok (.iaload, 1) := by decide +kernel
theorem dX5_tell_129 : decode cX5_tell 129 = .ok (.i2l, 1) := by decide +kernel
theorem dX5_tell_130 : decode cX5_tell 130 = .ok (.lmul, 1) := by decide +kernel
theorem dX5_tell_131 : decode cX5_tell 131 = .ok (.lcmp, 1) := by decide +kernel
theorem dX5_tell_132 : decode cX5_tell 132 = .ok (.ifCond .ne 7, 3) := by decide +kernel
theorem dX5_tell_135 : decode cX5_tell 135 = .ok (.iconst 1, 1) := by decide +kernel
theorem dX5_tell_136 : decode cX5_tell 136 = .ok (.goto 4, 3) := by decide +kernel
theorem dX5_tell_139 : decode cX5_tell 139 = .ok (.iconst 0, 1) := by decide +kernel
theorem dX5_tell_140 : decode cX5_tell 140 = .ok (.istore 10, 2) := by decide +kernel
theorem dX5_tell_142 : decode cX5_tell 142 = .ok (.iconst 0, 1) := by decide +kernel
theorem dX5_tell_143 : decode cX5_tell 143 = .ok (.istore 11, 2) := by decide +kernel
theorem dX5_tell_145 : decode cX5_tell 145 = .ok (.iload 11, 2) := by decide +kernel
theorem dX5_tell_147 : decode cX5_tell 147 = .ok (.iconst 2, 1) := by decide +kernel
theorem dX5_tell_148 : decode cX5_tell 148 = .ok (.if_icmp .ge 131, 3) := by decide +kernel
theorem dX5_tell_151 : decode cX5_tell 151 = .ok (.iload 10, 2) := by decide +kernel
theorem dX5_tell_153 : decode cX5_tell 153 = .ok (.ifCond .eq 18, 3) := by decide +kernel
theorem dX5_tell_156 : decode cX5_tell 156 = .ok (.aload_n 0, 1) := by decide +kernel
theorem dX5_tell_157 : decode cX5_tell 157 = .ok (.iload 11, 2) := by decide +kernel
theorem dX5_tell_159 : decode cX5_tell 159 = .ok (.lload 6, 2) := by decide +kernel
theorem dX5_tell_161 : decode cX5_tell 161 = .ok (.lload 8, 2) := by decide +kernel
theorem dX5_tell_163 : decode cX5_tell 163 = .ok (.lload 4, 2) := by decide +kernel
theorem dX5_tell_165 : decode cX5_tell 165 = .ok (.invokevirtual 125, 3) := by decide +kernel
theorem dX5_tell_168 : decode cX5_tell 168 = .ok (.goto 15, 3) := by decide +kernel
theorem dX5_tell_171 : decode cX5_tell 171 = .ok (.aload_n 0, 1) := by decide +kernel
theorem dX5_tell_172 : decode cX5_tell 172 = .ok (.iload 11, 2) := by decide +kernel
theorem dX5_tell_174 : decode cX5_tell 174 = .ok (.lload 6, 2) := by decide +kernel
theorem dX5_tell_176 : decode cX5_tell 176 = .ok (.lload 8, 2) := by decide +kernel
theorem dX5_tell_178 : decode cX5_tell 178 = .ok (.lload 4, 2) := by decide +kernel
theorem dX5_tell_180 : decode cX5_tell 180 = .ok (.invokevirtual 129, 3) := by decide +kernel
theorem dX5_tell_183 : decode cX5_tell 183 = .ok (.istore 12, 2) := by decide +kernel
theorem dX5_tell_185 : decode cX5_tell 185 = .ok (.iload 12, 2) := by decide +kernel
theorem dX5_tell_187 : decode cX5_tell 187 = .ok (.iconst 2, 1) := by decide +kernel
theorem dX5_tell_188 : decode cX5_tell 188 = .ok (.irem, 1) := by decide +kernel
theorem dX5_tell_189 : decode cX5_tell 189 = .ok (.iconst 1, 1) := by decide +kernel
theorem dX5_tell_190 : decode cX5_tell 190 = .ok (.if_icmp .ne 7, 3) := by decide +kernel
theorem dX5_tell_193 : decode cX5_tell 193 = .ok (.iconst 1, 1) := by decide +kernel
theorem dX5_tell_194 : decode cX5_tell 194 = .ok (.goto 4, 3) := by decide +kernel
theorem dX5_tell_197 : decode cX5_tell 197 = .ok (.iconst 0, 1) := by decide +kernel
theorem dX5_tell_198 : decode cX5_tell 198 = .ok (.istore 13, 2) := by decide +kernel
theorem dX5_tell_200 : decode cX5_tell 200 = .ok (.iload 12, 2) := by decide +kernel
theorem dX5_tell_202 : decode cX5_tell 202 = .ok (.aload_n 0, 1) := by decide +kernel
theorem dX5_tell_203 : decode cX5_tell 203 = .ok (.getfield 49, 3) := by decide +kernel
theorem dX5_tell_206 : decode cX5_tell 206 = .ok (.iconst 2, 1) := by decide +kernel
theorem dX5_tell_207 : decode cX5_tell 207 = .ok (.iload_n 1, 1) := by decide +kernel
theorem dX5_tell_208 : decode cX5_tell 208 = .ok (.imul, 1) := by decide +kernel
theorem dX5_tell_209 : decode cX5_tell 209 = .ok (.iload 11, 2) := by decide +kernel
theorem dX5_tell_211 : decode cX5_tell 211 = .ok (.iadd, 1) := by decide +kernel
theorem dX5_tell_212 : decode cX5_tell 212 = .ok (.iaload, 1) := by decide +kernel
theorem dX5_tell_213 : decode cX5_tell 213 = .ok (.iadd, 1) := by decide +kernel
theorem dX5_tell_214 : decode cX5_tell 214 = .ok (.iconst 2, 1) := by decide +kernel
theorem dX5_tell_215 : decode cX5_tell 215 = .ok (.irem, 1) := by decide +kernel
theorem dX5_tell_216 : decode cX5_tell 216 = .ok (.iconst 1, 1) := by decide +kernel
theorem dX5_tell_217 : decode cX5_tell 217 = .ok (.if_icmp .ne 7, 3) := by decide +kernel
theorem dX5_tell_220 : decode cX5_tell 220 = .ok (.iconst 1, 1) := by decide +kernel
theorem dX5_tell_221 : decode cX5_tell 221 = .ok (.goto 4, 3) := by decide +kernel
theorem dX5_tell_224 : decode cX5_tell 224 = .ok (.iconst 0, 1) := by decide +kernel
theorem dX5_tell_225 : decode cX5_tell 225 = .ok (.istore 14, 2) := by decide +kernel
theorem dX5_tell_227 : decode cX5_tell 227 = .ok (.aload_n 0, 1) := by decide +kernel
theorem dX5_tell_228 : decode cX5_tell 228 = .ok (.getfield 52, 3) := by decide +kernel
theorem dX5_tell_231 : decode cX5_tell 231 = .ok (.iconst 2, 1) := by decide +kernel
theorem dX5_tell_232 : decode cX5_tell 232 = .ok (.iload_n 1, 1) := by decide +kernel
theorem dX5_tell_233 : decode cX5_tell 233 = .ok (.imul, 1) := by decide +kernel
theorem dX5_tell_234 : decode cX5_tell 234 = .ok (.iload 11, 2) := by decide +kernel
theorem dX5_tell_236 : decode cX5_tell 236 = .ok (.iadd, 1) := by decide +kernel
theorem dX5_tell_237 : decode cX5_tell 237 = .ok (.iload 10, 2) := by decide +kernel
theorem dX5_tell_239 : decode cX5_tell 239 = .ok (.ifCond .eq 8, 3) := by decide +kernel
theorem dX5_tell_242 : decode cX5_tell 242 = .ok (.iload 14, 2) := by decide +kernel
theorem dX5_tell_244 : decode cX5_tell 244 = .ok (.goto 5, 3) := by decide +kernel
theorem dX5_tell_247 : decode cX5_tell 247 = .ok (.iload 13, 2) := by decide +kernel
theorem dX5_tell_249 : decode cX5_tell 249 = .ok (.bastore, 1) := by decide +kernel
theorem dX5_tell_250 : decode cX5_tell 250 = .ok (.aload_n 0, 1) := by decide +kernel
theorem dX5_tell_251 : decode cX5_tell 251 = .ok (.getfield 56, 3) := by decide +kernel
theorem dX5_tell_254 : decode cX5_tell 254 = .ok (.iconst 2, 1) := by decide +kernel
theorem dX5_tell_255 : decode cX5_tell 255 = .ok (.iload_n 1, 1) := by decide +kernel
theorem dX5_tell_256 : decode cX5_tell 256 = .ok (.imul, 1) := by decide +kernel
theorem dX5_tell_257 : decode cX5_tell 257 = .ok (.iload 11, 2) := by decide +kernel
theorem dX5_tell_259 : decode cX5_tell 259 = .ok (.iadd, 1) := by decide +kernel
theorem dX5_tell_260 : decode cX5_tell 260 = .ok (.iload 10, 2) := by decide +kernel
theorem dX5_tell_262 : decode cX5_tell 262 = .ok (.ifCond .eq 8, 3) := by decide +kernel
theorem dX5_tell_265 : decode cX5_tell 265 = .ok (.iload 13, 2) := by decide +kernel
theorem dX5_tell_267 : decode cX5_tell 267 = .ok (.goto 5, 3) := by decide +kernel
theorem dX5_tell_270 : decode cX5_tell 270 = .ok (.iload 14, 2) := by decide +kernel
theorem dX5_tell_272 : decode cX5_tell 272 = .ok (.bastore, 1) := by decide +kernel
theorem dX5_tell_273 : decode cX5_tell 273 = .ok (.iinc 11 1, 3) := by decide +kernel
theorem dX5_tell_276 : decode cX5_tell 276 = .ok (.goto (-131), 3) := by decide +kernel
theorem dX5_tell_279 : decode cX5_tell 279 = .ok (.return_, 1) := by decide +kernel
set_option maxRecDepth 20000 in
theorem ggX5_overlay_X5_addEdge : GoodIn wsX5_overlay wsX5_addEdge := goodIn_r _ [18, 19, 20, 7, 3, 9, 12, 13, 21, 84, 85, 86, 87, 88, 89, 90, 91, 92, 93, 94, 95, 96, 97, 98, 99, 100, 101, 102, 103, 104, 105, 106, 107, 108, 109, 110] (by decide +kernel) (by decide +kernel)
set_option maxRecDepth 20000 in
theorem gX5_overlay_X5_addEdge : GoodIn wsX5_overlay (wsV RX5 136 RX5 yX5_addEdge wsX5_addEdge) := goodIn_app (goodIn_of _ (by decide +kernel)) ggX5_overlay_X5_addEdge
set_option maxRecDepth 20000 in
theorem ggX5_overlay_X5_addPoint : GoodIn wsX5_overlay wsX5_addPoint := goodIn_r _ [25, 8, 10, 11, 4, 26, 27, 28, 29, 30, 17, 31, 32, 33, 34, 35, 36, 37, 38, 84, 85, 86, 87, 88, 89, 90, 91, 92, 93, 94, 95, 96, 97, 98, 99, 100, 101, 102, 103, 104, 105, 106, 107, 108, 109, 110] (by decide +kernel) (by decide +kernel)
set_option maxRecDepth 20000 in
theorem gX5_overlay_X5_addPoint : GoodIn wsX5_overlay (wsV RX5 139 RX5 yX5_addPoint wsX5_addPoint) := goodIn_app (goodIn_of _ (by decide +kernel)) ggX5_overlay_X5_addPoint
set_option maxRecDepth 20000 in
theorem ggX5_overlay_X5_meet : GoodIn wsX5_overlay wsX5_meet := goodIn_r _ [42, 12, 7, 13, 9, 8, 10, 11, 43, 44, 45, 46, 47, 48, 17, 49, 50, 51, 52, 53, 36, 37, 38, 54, 55, 56, 57, 84, 85, 86, 87, 88, 89, 90, 91, 92, 93, 94, 95, 96, 97, 98, 99, 100, 101, 102, 103, 104, 105, 106, 107, 108, 109, 110] (by decide +kernel) (by decide +kernel)
set_option maxRecDepth 20000 in
theorem gX5_overlay_X5_meet : GoodIn wsX5_overlay (wsV RX5 142 RX5 yX5_meet wsX5_meet) := goodIn_app (goodIn_of _ (by decide +kernel)) ggX5_overlay_X5_meet
set_option maxRecDepth 20000 in
theorem ggX5_overlay_X5_cut : GoodIn wsX5_overlay wsX5_cut := goodIn_r _ [61, 4, 26, 27, 28, 21, 54, 55, 56, 17, 57, 7, 9, 12, 13, 50, 51, 52, 53, 36, 37, 38, 62, 63, 64, 65, 5, 66, 67, 68, 84, 85, 86, 87, 88, 89, 90, 91, 92, 93, 94, 95, 96, 97, 98, 99, 100, 101, 102, 103, 104, 105, 106, 107, 108, 109, 110] (by decide +kernel) (by decide +kernel)
set_option maxRecDepth 20000 in
theorem gX5_overlay_X5_cut : GoodIn wsX5_overlay (wsV RX5 145 RX5 yX5_cut wsX5_cut) := goodIn_app (goodIn_of _ (by decide +kernel)) ggX5_overlay_X5_cut
set_option maxRecDepth 20000 in
theorem ggX5_overlay_X5_tell : GoodIn wsX5_overlay wsX5_tell := goodIn_r _ [72, 66, 67, 73, 28, 26, 27, 68, 74, 75, 76, 77, 78, 17, 79, 3, 9, 13, 21, 50, 51, 52, 53, 12, 7, 80, 81, 82, 83, 84, 85, 86, 87, 88, 89, 90, 91, 92, 93, 94, 95, 96, 97, 98, 99, 100, 101, 102, 103, 104, 105, 106, 107, 108, 109, 110] (by decide +kernel) (by decide +kernel)
set_option maxRecDepth 20000 in
theorem gX5_overlay_X5_tell : GoodIn wsX5_overlay (wsV RX5 149 RX5 yX5_tell wsX5_tell) := goodIn_app (goodIn_of _ (by decide +kernel)) ggX5_overlay_X5_tell
theorem dX5_overlay_0 : decode cX5_overlay 0 = .ok (.aload_n 0, 1) := by decide +kernel
theorem dX5_overlay_1 : decode cX5_overlay 1 = .ok (.iconst 0, 1) := by decide +kernel
theorem dX5_overlay_2 : decode cX5_overlay 2 = .ok (.putfield 59, 3) := by decide +kernel
theorem dX5_overlay_5 : decode cX5_overlay 5 = .ok (.aload_n 0, 1) := by decide +kernel
theorem dX5_overlay_6 : decode cX5_overlay 6 = .ok (.iconst 1, 1) := by decide +kernel
theorem dX5_overlay_7 : decode cX5_overlay 7 = .ok (.putfield 132, 3) := by decide +kernel
theorem dX5_overlay_10 : decode cX5_overlay 10 = .ok (.aload_n 0, 1) := by decide +kernel
theorem dX5_overlay_11 : decode cX5_overlay 11 = .ok (.iconst 0, 1) := by decide +kernel
theorem dX5_overlay_12 : decode cX5_overlay 12 = .ok (.putfield 92, 3) := by decide +kernel
theorem dX5_overlay_15 : decode cX5_overlay 15 = .ok (.aload_n 0, 1) := by decide +kernel
theorem dX5_overlay_16 : decode cX5_overlay 16 = .ok (.iconst 0, 1) := by decide +kernel
theorem dX5_overlay_17 : decode cX5_overlay 17 = .ok (.putfield 67, 3) := by decide +kernel
theorem dX5_overlay_20 : decode cX5_overlay 20 = .ok (.aload_n 0, 1) := by decide +kernel
theorem dX5_overlay_21 : decode cX5_overlay 21 = .ok (.iconst 0, 1) := by decide +kernel
theorem dX5_overlay_22 : decode cX5_overlay 22 = .ok (.putfield 116, 3) := by decide +kernel
theorem dX5_overlay_25 : decode cX5_overlay 25 = .ok (.iconst 0, 1) := by decide +kernel
theorem dX5_overlay_26 : decode cX5_overlay 26 = .ok (.istore_n 1, 1) := by decide +kernel
theorem dX5_overlay_27 : decode cX5_overlay 27 = .ok (.iload_n 1, 1) := by decide +kernel
theorem dX5_overlay_28 : decode cX5_overlay 28 = .ok (.iconst 2, 1) := by decide +kernel
theorem dX5_overlay_29 : decode cX5_overlay 29 = .ok (.if_icmp .ge 53, 3) := by decide +kernel
theorem dX5_overlay_32 : decode cX5_overlay 32 = .ok (.iconst 0, 1) := by decide +kernel
theorem dX5_overlay_33 : decode cX5_overlay 33 = .ok (.istore_n 2, 1) := by decide +kernel
theorem dX5_overlay_34 : decode cX5_overlay 34 = .ok (.iload_n 2, 1) := by decide +kernel
theorem dX5_overlay_35 : decode cX5_overlay 35 = .ok (.aload_n 0, 1) := by decide +kernel
theorem dX5_overlay_36 : decode cX5_overlay 36 = .ok (.getfield 7, 3) := by decide +kernel
theorem dX5_overlay_39 : decode cX5_overlay 39 = .ok (.iload_n 1, 1) := by decide +kernel
theorem dX5_overlay_40 : decode cX5_overlay 40 = .ok (.iaload, 1) := by decide +kernel
theorem dX5_overlay_41 : decode cX5_overlay 41 = .ok (.if_icmp .ge 35, 3) := by decide +kernel
theorem dX5_overlay_44 : decode cX5_overlay 44 = .ok (.aload_n 0, 1) := by decide +kernel
theorem dX5_overlay_45 : decode cX5_overlay 45 = .ok (.iload_n 1, 1) := by decide +kernel
theorem dX5_overlay_46 : decode cX5_overlay 46 = .ok (.bipush 6, 2) := by decide +kernel
theorem dX5_overlay_48 : decode cX5_overlay 48 = .ok (.iload_n 1, 1) := by decide +kernel
theorem dX5_overlay_49 : decode cX5_overlay 49 = .ok (.imul, 1) := by decide +kernel
theorem dX5_overlay_50 : decode cX5_overlay 50 = .ok (.iload_n 2, 1) := by decide +kernel
theorem dX5_overlay_51 : decode cX5_overlay 51 = .ok (.iadd, 1) := by decide +kernel
theorem dX5_overlay_52 : decode cX5_overlay 52 = .ok (.bipush 6, 2) := by decide +kernel
theorem dX5_overlay_54 : decode cX5_overlay 54 = .ok (.iload_n 1, 1) := by decide +kernel
theorem dX5_overlay_55 : decode cX5_overlay 55 = .ok (.imul, 1) := by decide +kernel
theorem dX5_overlay_56 : decode cX5_overlay 56 = .ok (.iload_n 2, 1) := by decide +kernel
theorem dX5_overlay_57 : decode cX5_overlay 57 = .ok (.iconst 1, 1) := by decide +kernel
theorem dX5_overlay_58 : decode cX5_overlay 58 = .ok (.iadd, 1) := by decide +kernel
theorem dX5_overlay_59 : decode cX5_overlay 59 = .ok (.aload_n 0, 1) := by decide +kernel
theorem dX5_overlay_60 : decode cX5_overlay 60 = .ok (.getfield 7, 3) := by decide +kernel
theorem dX5_overlay_63 : decode cX5_overlay 63 = .ok (.iload_n 1, 1) := by decide +kernel
theorem dX5_overlay_64 : decode cX5_overlay 64 = .ok (.iaload, 1) := by decide +kernel
theorem dX5_overlay_65 : decode cX5_overlay 65 = .ok (.irem, 1) := by decide +kernel
theorem dX5_overlay_66 : decode cX5_overlay 66 = .ok (.iadd, 1) := by decide +kernel
theorem dX5_overlay_67 : decode cX5_overlay 67 = .ok (.invokevirtual 136, 3) := by decide +kernel
theorem dX5_overlay_70 : decode cX5_overlay 70 = .ok (.iinc 2 1, 3) := by decide +kernel
theorem dX5_overlay_73 : decode cX5_overlay 73 = .ok (.goto (-39), 3) := by decide +kernel
theorem dX5_overlay_76 : decode cX5_overlay 76 = .ok (.iinc 1 1, 3) := by decide +kernel
theorem dX5_overlay_79 : decode cX5_overlay 79 = .ok (.goto (-52), 3) := by decide +kernel
theorem dX5_overlay_82 : decode cX5_overlay 82 = .ok (.iconst 0, 1) := by decide +kernel
theorem dX5_overlay_83 : decode cX5_overlay 83 = .ok (.istore_n 1, 1) := by decide +kernel
theorem dX5_overlay_84 : decode cX5_overlay 84 = .ok (.iload_n 1, 1) := by decide +kernel
theorem dX5_overlay_85 : decode cX5_overlay 85 = .ok (.aload_n 0, 1) := by decide +kernel
theorem dX5_overlay_86 : decode cX5_overlay 86 = .ok (.getfield 92, 3) := by decide +kernel
theorem dX5_overlay_89 : decode cX5_overlay 89 = .ok (.if_icmp .ge 98, 3) := by decide +kernel
theorem dX5_overlay_92 : decode cX5_overlay 92 = .ok (.aload_n 0, 1) := by decide +kernel
theorem dX5_overlay_93 : decode cX5_overlay 93 = .ok (.aload_n 0, 1) := by decide +kernel
theorem dX5_overlay_94 : decode cX5_overlay 94 = .ok (.getfield 19, 3) := by decide +kernel
theorem dX5_overlay_97 : decode cX5_overlay 97 = .ok (.iload_n 1, 1) := by decide +kernel
theorem dX5_overlay_98 : decode cX5_overlay 98 = .ok (.iaload, 1) := by decide +kernel
theorem dX5_overlay_99 : decode cX5_overlay 99 = .ok (.i2l, 1) := by decide +kernel
theorem dX5_overlay_100 : decode cX5_overlay 100 = .ok (.putfield 70, 3) := by decide +kernel
theorem dX5_overlay_103 : decode cX5_overlay 103 = .ok (.aload_n 0, 1) := by decide +kernel
theorem dX5_overlay_104 : decode cX5_overlay 104 = .ok (.aload_n 0, 1) := by decide +kernel
theorem dX5_overlay_105 : decode cX5_overlay 105 = .ok (.getfield 22, 3) := by decide +kernel
theorem dX5_overlay_108 : decode cX5_overlay 108 = .ok (.iload_n 1, 1) := by decide +kernel
theorem dX5_overlay_109 : decode cX5_overlay 109 = .ok (.iaload, 1) := by decide +kernel
theorem dX5_overlay_110 : decode cX5_overlay 110 = .ok (.i2l, 1) := by decide +kernel
theorem dX5_overlay_111 : decode cX5_overlay 111 = .ok (.putfield 74, 3) := by decide +kernel
theorem dX5_overlay_114 : decode cX5_overlay 114 = .ok (.aload_n 0, 1) := by decide +kernel
theorem dX5_overlay_115 : decode cX5_overlay 115 = .ok (.lconst 1, 1) := by decide +kernel
theorem dX5_overlay_116 : decode cX5_overlay 116 = .ok (.putfield 77, 3) := by decide +kernel
theorem dX5_overlay_119 : decode cX5_overlay 119 = .ok (.aload_n 0, 1) := by decide +kernel
theorem dX5_overlay_120 : decode cX5_overlay 120 = .ok (.invokevirtual 139, 3) := by decide +kernel
theorem dX5_overlay_123 : decode cX5_overlay 123 = .ok (.aload_n 0, 1) := by decide +kernel
theorem dX5_overlay_124 : decode cX5_overlay 124 = .ok (.aload_n 0, 1) := by decide +kernel
theorem dX5_overlay_125 : decode cX5_overlay 125 = .ok (.getfield 25, 3) := by decide +kernel
theorem dX5_overlay_128 : decode cX5_overlay 128 = .ok (.iload_n 1, 1) := by decide +kernel
theorem dX5_overlay_129 : decode cX5_overlay 129 = .ok (.iaload, 1) := by decide +kernel
theorem dX5_overlay_130 : decode cX5_overlay 130 = .ok (.i2l, 1) := by decide +kernel
theorem dX5_overlay_131 : decode cX5_overlay 131 = .ok (.putfield 70, 3) := by decide +kernel
theorem dX5_overlay_134 : decode cX5_overlay 134 = .ok (.aload_n 0, 1) := by decide +kernel
theorem dX5_overlay_135 : decode cX5_overlay 135 = .ok (.aload_n 0, 1) := by decide +kernel
theorem dX5_overlay_136 : decode cX5_overlay 136 = .ok (.getfield 28, 3) := by decide +kernel
theorem dX5_overlay_139 : decode cX5_overlay 139 = .ok (.iload_n 1, 1) := by decide +kernel
theorem dX5_overlay_140 : decode cX5_overlay 140 = .ok (.iaload, 1) := by decide +kernel
theorem dX5_overlay_141 : decode cX5_overlay 141 = .ok (.i2l, 1) := by decide +kernel
theorem dX5_overlay_142 : decode cX5_overlay 142 = .ok (.putfield 74, 3) := by decide +kernel
theorem dX5_overlay_145 : decode cX5_overlay 145 = .ok (.aload_n 0, 1) := by decide +kernel
theorem dX5_overlay_146 : decode cX5_overlay 146 = .ok (.lconst 1, 1) := by decide +kernel
theorem dX5_overlay_147 : decode cX5_overlay 147 = .ok (.putfield 77, 3) := by decide +kernel
theorem dX5_overlay_150 : decode cX5_overlay 150 = .ok (.aload_n 0, 1) := by decide +kernel
theorem dX5_overlay_151 : decode cX5_overlay 151 = .ok (.invokevirtual 139, 3) := by decide +kernel
theorem dX5_overlay_154 : decode cX5_overlay 154 = .ok (.iconst 0, 1) := by decide +kernel
theorem dX5_overlay_155 : decode cX5_overlay 155 = .ok (.istore_n 2, 1) := by decide +kernel
theorem dX5_overlay_156 : decode cX5_overlay 156 = .ok (.iload_n 2, 1) := by decide +kernel
theorem dX5_overlay_157 : decode cX5_overlay 157 = .ok (.iload_n 1, 1) := by decide +kernel
theorem dX5_overlay_158 : decode cX5_overlay 158 = .ok (.if_icmp .ge 23, 3) := by decide +kernel
theorem dX5_overlay_161 : decode cX5_overlay 161 = .ok (.aload_n 0, 1) := by decide +kernel
theorem dX5_overlay_162 : decode cX5_overlay 162 = .ok (.iload_n 1, 1) := by decide +kernel
theorem dX5_overlay_163 : decode cX5_overlay 163 = .ok (.iload_n 2, 1) := by decide +kernel
theorem dX5_overlay_164 : decode cX5_overlay 164 = .ok (.invokevirtual 142, 3) := by decide +kernel
theorem dX5_overlay_167 : decode cX5_overlay 167 = .ok (.iconst 1, 1) := by decide +kernel
theorem dX5_overlay_168 : decode cX5_overlay 168 = .ok (.if_icmp .ne 7, 3) := by decide +kernel
theorem dX5_overlay_171 : decode cX5_overlay 171 = .ok (.aload_n 0, 1) := by decide +kernel
theorem dX5_overlay_172 : decode cX5_overlay 172 = .ok (.invokevirtual 139, 3) := by decide +kernel
theorem dX5_overlay_175 : decode cX5_overlay 175 = .ok (.iinc 2 1, 3) := by decide +kernel
theorem dX5_overlay_178 : decode cX5_overlay 178 = .ok (.goto (-22), 3) := by decide +kernel
theorem dX5_overlay_181 : decode cX5_overlay 181 = .ok (.iinc 1 1, 3) := by decide +kernel
theorem dX5_overlay_184 : decode cX5_overlay 184 = .ok (.goto (-100), 3) := by decide +kernel
theorem dX5_overlay_187 : decode cX5_overlay 187 = .ok (.iconst 0, 1) := by decide +kernel
theorem dX5_overlay_188 : decode cX5_overlay 188 = .ok (.istore_n 1, 1) := by decide +kernel
theorem dX5_overlay_189 : decode cX5_overlay 189 = .ok (.iload_n 1, 1) := by decide +kernel
theorem dX5_overlay_190 : decode cX5_overlay 190 = .ok (.aload_n 0, 1) := by decide +kernel
theorem dX5_overlay_191 : decode cX5_overlay 191 = .ok (.getfield 92, 3) := by decide +kernel
theorem dX5_overlay_194 : decode cX5_overlay 194 = .ok (.if_icmp .ge 14, 3) := by decide +kernel
theorem dX5_overlay_197 : decode cX5_overlay 197 = .ok (.aload_n 0, 1) := by decide +kernel
theorem dX5_overlay_198 : decode cX5_overlay 198 = .ok (.iload_n 1, 1) := by decide +kernel
theorem dX5_overlay_199 : decode cX5_overlay 199 = .ok (.invokevirtual 145, 3) := by decide +kernel
theorem dX5_overlay_202 : decode cX5_overlay 202 = .ok (.iinc 1 1, 3) := by decide +kernel
theorem dX5_overlay_205 : decode cX5_overlay 205 = .ok (.goto (-16), 3) := by decide +kernel
theorem dX5_overlay_208 : decode cX5_overlay 208 = .ok (.iconst 0, 1) := by decide +kernel
theorem dX5_overlay_209 : decode cX5_overlay 209 = .ok (.istore_n 1, 1) := by decide +kernel
theorem dX5_overlay_210 : decode cX5_overlay 210 = .ok (.iload_n 1, 1) := by decide +kernel
theorem dX5_overlay_211 : decode cX5_overlay 211 = .ok (.aload_n 0, 1) := by decide +kernel
theorem dX5_overlay_212 : decode cX5_overlay 212 = .ok (.getfield 116, 3) := by decide +kernel
theorem dX5_overlay_215 : decode cX5_overlay 215 = .ok (.if_icmp .ge 14, 3) := by decide +kernel
theorem dX5_overlay_218 : decode cX5_overlay 218 = .ok (.aload_n 0, 1) := by decide +kernel
theorem dX5_overlay_219 : decode cX5_overlay 219 = .ok (.iload_n 1, 1) := by decide +kernel
theorem dX5_overlay_220 : decode cX5_overlay 220 = .ok (.invokevirtual 149, 3) := by decide +kernel
theorem dX5_overlay_223 : decode cX5_overlay 223 = .ok (.iinc 1 1, 3) := by decide +kernel
theorem dX5_overlay_226 : decode cX5_overlay 226 = .ok (.goto (-16), 3) := by decide +kernel
theorem dX5_overlay_229 : decode cX5_overlay 229 = .ok (.aload_n 0, 1) := by decide +kernel
theorem dX5_overlay_230 : decode cX5_overlay 230 = .ok (.getfield 116, 3) := by decide +kernel
theorem dX5_overlay_233 : decode cX5_overlay 233 = .ok (.ireturn, 1) := by decide +kernel
set_option maxRecDepth 20000 in
theorem ggX5_pairs_X5_meet : GoodIn wsX5_pairs wsX5_meet := goodIn_r _ [6, 7, 8, 9, 10, 11, 12, 13, 14, 15, 16, 17, 18, 19, 5, 20, 21, 22, 23, 24, 25, 26, 27, 28, 29, 30, 31, 32, 33, 34, 35, 36, 37, 38, 39, 40, 41, 42, 43, 44, 45, 46, 47, 48, 49, 50, 51, 52, 53, 54, 55, 56, 57, 58] (by decide +kernel) (by decide +kernel)
set_option maxRecDepth 20000 in
theorem gX5_pairs_X5_meet : GoodIn wsX5_pairs (wsV RX5 142 RX5 yX5_meet wsX5_meet) := goodIn_app (goodIn_of _ (by decide +kernel)) ggX5_pairs_X5_meet
theorem dX5_pairs_0 : decode cX5_pairs 0 = .ok (.iconst 0, 1) := by decide +kernel
theorem dX5_pairs_1 : decode cX5_pairs 1 = .ok (.istore_n 1, 1) := by decide +kernel
theorem dX5_pairs_2 : decode cX5_pairs 2 = .ok (.iconst 0, 1) := by decide +kernel
theorem dX5_pairs_3 : decode cX5_pairs 3 = .ok (.istore_n 2, 1) := by decide +kernel
theorem dX5_pairs_4 : decode cX5_pairs 4 = .ok (.iload_n 2, 1) := by decide +kernel
theorem dX5_pairs_5 : decode cX5_pairs 5 = .ok (.aload_n 0, 1) := by decide +kernel
theorem dX5_pairs_6 : decode cX5_pairs 6 = .ok (.getfield 92, 3) := by decide +kernel
theorem dX5_pairs_9 : decode cX5_pairs 9 = .ok (.if_icmp .ge 39, 3) := by decide +kernel
theorem dX5_pairs_12 : decode cX5_pairs 12 = .ok (.iconst 0, 1) := by decide +kernel
theorem dX5_pairs_13 : decode cX5_pairs 13 = .ok (.istore_n 3, 1) := by decide +kernel
theorem dX5_pairs_14 : decode cX5_pairs 14 = .ok (.iload_n 3, 1) := by decide +kernel
theorem dX5_pairs_15 : decode cX5_pairs 15 = .ok (.iload_n 2, 1) := by decide +kernel
theorem dX5_pairs_16 : decode cX5_pairs 16 = .ok (.if_icmp .ge 26, 3) := by decide +kernel
theorem dX5_pairs_19 : decode cX5_pairs 19 = .ok (.iload_n 1, 1) := by decide +kernel
theorem dX5_pairs_20 : decode cX5_pairs 20 = .ok (.aload_n 0, 1) := by decide +kernel
theorem dX5_pairs_21 : decode cX5_pairs 21 = .ok (.iload_n 2, 1) := by decide +kernel
theorem dX5_pairs_22 : decode cX5_pairs 22 = .ok (.iload_n 3, 1) := by decide +kernel
theorem dX5_pairs_23 : decode cX5_pairs 23 = .ok (.invokevirtual 142, 3) := by decide +kernel
theorem dX5_pairs_26 : decode cX5_pairs 26 = .ok (.ifCond .le 7, 3) := by decide +kernel
theorem dX5_pairs_29 : decode cX5_pairs 29 = .ok (.iconst 1, 1) := by decide +kernel
theorem dX5_pairs_30 : decode cX5_pairs 30 = .ok (.goto 4, 3) := by decide +kernel
theorem dX5_pairs_33 : decode cX5_pairs 33 = .ok (.iconst 0, 1) := by decide +kernel
theorem dX5_pairs_34 : decode cX5_pairs 34 = .ok (.iadd, 1) := by decide +kernel
theorem dX5_pairs_35 : decode cX5_pairs 35 = .ok (.istore_n 1, 1) := by decide +kernel
theorem dX5_pairs_36 : decode cX5_pairs 36 = .ok (.iinc 3 1, 3) := by decide +kernel
theorem dX5_pairs_39 : decode cX5_pairs 39 = .ok (.goto (-25), 3) := by decide +kernel
theorem dX5_pairs_42 : decode cX5_pairs 42 = .ok (.iinc 2 1, 3) := by decide +kernel
theorem dX5_pairs_45 : decode cX5_pairs 45 = .ok (.goto (-41), 3) := by decide +kernel
theorem dX5_pairs_48 : decode cX5_pairs 48 = .ok (.iload_n 1, 1) := by decide +kernel
theorem dX5_pairs_49 : decode cX5_pairs 49 = .ok (.ireturn, 1) := by decide +kernel
set_option maxRecDepth 20000 in
theorem ggX5_parts_X5_in : GoodIn wsX5_parts wsX5_in := goodIn_r _ [8] (by decide +kernel) (by decide +kernel)
set_option maxRecDepth 20000 in
theorem gX5_parts_X5_in : GoodIn wsX5_parts (va_wsS RX5 152 yX5_in wsX5_in) := goodIn_app (goodIn_of _ (by decide +kernel)) ggX5_parts_X5_in
theorem dX5_parts_0 : decode cX5_parts 0 = .ok (.iconst 0, 1) := by decide +kernel
theorem dX5_parts_1 : decode cX5_parts 1 = .ok (.istore_n 1, 1) := by decide +kernel
theorem dX5_parts_2 : decode cX5_parts 2 = .ok (.iconst 0, 1) := by decide +kernel
theorem dX5_parts_3 : decode cX5_parts 3 = .ok (.istore_n 2, 1) := by decide +kernel
theorem dX5_parts_4 : decode cX5_parts 4 = .ok (.iload_n 2, 1) := by decide +kernel
theorem dX5_parts_5 : decode cX5_parts 5 = .ok (.aload_n 0, 1) := by decide +kernel
theorem dX5_parts_6 : decode cX5_parts 6 = .ok (.getfield 67, 3) := by decide +kernel
theorem dX5_parts_9 : decode cX5_parts 9 = .ok (.if_icmp .ge 241, 3) := by decide +kernel
theorem dX5_parts_12 : decode cX5_parts 12 = .ok (.iload_n 2, 1) := by decide +kernel
theorem dX5_parts_13 : decode cX5_parts 13 = .ok (.istore_n 3, 1) := by decide +kernel
theorem dX5_parts_14 : decode cX5_parts 14 = .ok (.iconst 1, 1) := by decide +kernel
theorem dX5_parts_15 : decode cX5_parts 15 = .ok (.istore 4, 2) := by decide +kernel
theorem dX5_parts_17 : decode cX5_parts 17 = .ok (.lconst 1, 1) := by decide +kernel
theorem dX5_parts_18 : decode cX5_parts 18 = .ok (.iload_n 2, 1) := by decide +kernel
theorem dX5_parts_19 : decode cX5_parts 19 = .ok (.bipush 64, 2) := by decide +kernel
theorem dX5_parts_21 : decode cX5_parts 21 = .ok (.if_icmp .ge 7, 3) := by decide +kernel
theorem dX5_parts_24 : decode cX5_parts 24 = .ok (.iload_n 2, 1) := by decide +kernel
theorem dX5_parts_25 : decode cX5_parts 25 = .ok (.goto 4, 3) := by decide +kernel
theorem dX5_parts_28 : decode cX5_parts 28 = .ok (.iconst 0, 1) := by decide +kernel
theorem dX5_parts_29 : decode cX5_parts 29 = .ok (.lshl, 1) := by decide +kernel
theorem dX5_parts_30 : decode cX5_parts 30 = .ok (.lstore 5, 2) := by decide +kernel
theorem dX5_parts_32 : decode cX5_parts 32 = .ok (.lconst 1, 1) := by decide +kernel
theorem dX5_parts_33 : decode cX5_parts 33 = .ok (.iload_n 2, 1) := by decide +kernel
theorem dX5_parts_34 : decode cX5_parts 34 = .ok (.bipush 64, 2) := by decide +kernel
theorem dX5_parts_36 : decode cX5_parts 36 = .ok (.if_icmp .ge 7, 3) := by decide +kernel
theorem dX5_parts_39 : decode cX5_parts 39 = .ok (.iconst 0, 1) := by decide +kernel
theorem dX5_parts_40 : decode cX5_parts 40 = .ok (.goto 7, 3) := by decide +kernel
theorem dX5_parts_43 : decode cX5_parts 43 = .ok (.iload_n 2, 1) := by decide +kernel
theorem dX5_parts_44 : decode cX5_parts 44 = .ok (.bipush 64, 2) := by decide +kernel
theorem dX5_parts_46 : decode cX5_parts 46 = .ok (.isub, 1) := by decide +kernel
theorem dX5_parts_47 : decode cX5_parts 47 = .ok (.lshl, 1) := by decide +kernel
theorem dX5_parts_48 : decode cX5_parts 48 = .ok (.lstore 7, 2) := by decide +kernel
theorem dX5_parts_50 : decode cX5_parts 50 = .ok (.iload_n 2, 1) := by decide +kernel
theorem dX5_parts_51 : decode cX5_parts 51 = .ok (.bipush 64, 2) := by decide +kernel
theorem dX5_parts_53 : decode cX5_parts 53 = .ok (.if_icmp .ge 8, 3) := by decide +kernel
theorem dX5_parts_56 : decode cX5_parts 56 = .ok (.lload 5, 2) := by decide +kernel
theorem dX5_parts_58 : decode cX5_parts 58 = .ok (.goto 4, 3) := by decide +kernel
theorem dX5_parts_61 : decode cX5_parts 61 = .ok (.lconst 0, 1) := by decide +kernel
theorem dX5_parts_62 : decode cX5_parts 62 = .ok (.lstore 5, 2) := by decide +kernel
theorem dX5_parts_64 : decode cX5_parts 64 = .ok (.iload_n 2, 1) := by decide +kernel
theorem dX5_parts_65 : decode cX5_parts 65 = .ok (.bipush 64, 2) := by decide +kernel
theorem dX5_parts_67 : decode cX5_parts 67 = .ok (.if_icmp .ge 7, 3) := by decide +kernel
theorem dX5_parts_70 : decode cX5_parts 70 = .ok (.lconst 0, 1) := by decide +kernel
theorem dX5_parts_71 : decode cX5_parts 71 = .ok (.goto 5, 3) := by decide +kernel
theorem dX5_parts_74 : decode cX5_parts 74 = .ok (.lload 7, 2) := by decide +kernel
theorem dX5_parts_76 : decode cX5_parts 76 = .ok (.lstore 7, 2) := by decide +kernel
theorem dX5_parts_78 : decode cX5_parts 78 = .ok (.iload 4, 2) := by decide +kernel
theorem dX5_parts_80 : decode cX5_parts 80 = .ok (.ifCond .eq 151, 3) := by decide +kernel
theorem dX5_parts_83 : decode cX5_parts 83 = .ok (.iconst 0, 1) := by decide +kernel
theorem dX5_parts_84 : decode cX5_parts 84 = .ok (.istore 4, 2) := by decide +kernel
theorem dX5_parts_86 : decode cX5_parts 86 = .ok (.iconst 0, 1) := by decide +kernel
theorem dX5_parts_87 : decode cX5_parts 87 = .ok (.istore 9, 2) := by decide +kernel
theorem dX5_parts_89 : decode cX5_parts 89 = .ok (.iload 9, 2) := by decide +kernel
theorem dX5_parts_91 : decode cX5_parts 91 = .ok (.aload_n 0, 1) := by decide +kernel
theorem dX5_parts_92 : decode cX5_parts 92 = .ok (.getfield 116, 3) := by decide +kernel
theorem dX5_parts_95 : decode cX5_parts 95 = .ok (.if_icmp .ge 133, 3) := by decide +kernel
theorem dX5_parts_98 : decode cX5_parts 98 = .ok (.lload 5, 2) := by decide +kernel
theorem dX5_parts_100 : decode cX5_parts 100 = .ok (.lload 7, 2) := by decide +kernel
theorem dX5_parts_102 : decode cX5_parts 102 = .ok (.aload_n 0, 1) := by decide +kernel
theorem dX5_parts_103 : decode cX5_parts 103 = .ok (.getfield 43, 3) := by decide +kernel
theorem dX5_parts_106 : decode cX5_parts 106 = .ok (.iload 9, 2) := by decide +kernel
theorem dX5_parts_108 : decode cX5_parts 108 = .ok (.iaload, 1) := by decide +kernel
theorem dX5_parts_109 : decode cX5_parts 109 = .ok (.invokestatic 152, 3) := by decide +kernel
theorem dX5_parts_112 : decode cX5_parts 112 = .ok (.istore 10, 2) := by decide +kernel
theorem dX5_parts_114 : decode cX5_parts 114 = .ok (.lload 5, 2) := by decide +kernel
theorem dX5_parts_116 : decode cX5_parts 116 = .ok (.lload 7, 2) := by decide +kernel
theorem dX5_parts_118 : decode cX5_parts 118 = .ok (.aload_n 0, 1) := by decide +kernel
theorem dX5_parts_119 : decode cX5_parts 119 = .ok (.getfield 46, 3) := by decide +kernel
theorem dX5_parts_122 : decode cX5_parts 122 = .ok (.iload 9, 2) := by decide +kernel
theorem dX5_parts_124 : decode cX5_parts 124 = .ok (.iaload, 1) := by decide +kernel
theorem dX5_parts_125 : decode cX5_parts 125 = .ok (.invokestatic 152, 3) := by decide +kernel
theorem dX5_parts_128 : decode cX5_parts 128 = .ok (.istore 11, 2) := by decide +kernel
theorem dX5_parts_130 : decode cX5_parts 130 = .ok (.iload 10, 2) := by decide +kernel
theorem dX5_parts_132 : decode cX5_parts 132 = .ok (.iload 11, 2) := by decide +kernel
theorem dX5_parts_134 : decode cX5_parts 134 = .ok (.if_icmp .eq 88, 3) := by decide +kernel
theorem dX5_parts_137 : decode cX5_parts 137 = .ok (.iload 10, 2) := by decide +kernel
theorem dX5_parts_139 : decode cX5_parts 139 = .ok (.ifCond .eq 13, 3) := by decide +kernel
theorem dX5_parts_142 : decode cX5_parts 142 = .ok (.aload_n 0, 1) := by decide +kernel
theorem dX5_parts_143 : decode cX5_parts 143 = .ok (.getfield 46, 3) := by decide +kernel
theorem dX5_parts_146 : decode cX5_parts 146 = .ok (.iload 9, 2) := by decide +kernel
theorem dX5_parts_148 : decode cX5_parts 148 = .ok (.iaload, 1) := by decide +kernel
theorem dX5_parts_149 : decode cX5_parts 149 = .ok (.goto 10, 3) := by decide +kernel
theorem dX5_parts_152 : decode cX5_parts 152 = .ok (.aload_n 0, 1) := by decide +kernel
theorem dX5_parts_153 : decode cX5_parts 153 = .ok (.getfield 43, 3) := by decide +kernel
theorem dX5_parts_156 : decode cX5_parts 156 = .ok (.iload 9, 2) := by decide +kernel
theorem dX5_parts_158 : decode cX5_parts 158 = .ok (.iaload, 1) := by decide +kernel
theorem dX5_parts_159 : decode cX5_parts 159 = .ok (.istore 12, 2) := by decide +kernel
theorem dX5_parts_161 : decode cX5_parts 161 = .ok (.iload 12, 2) := by decide +kernel
theorem dX5_parts_163 : decode cX5_parts 163 = .ok (.bipush 64, 2) := by decide +kernel
theorem dX5_parts_165 : decode cX5_parts 165 = .ok (.if_icmp .ge 13, 3) := by decide +kernel
theorem dX5_parts_168 : decode cX5_parts 168 = .ok (.lload 5, 2) := by decide +kernel
theorem dX5_parts_170 : decode cX5_parts 170 = .ok (.lconst 1, 1) := by decide +kernel
theorem dX5_parts_171 : decode cX5_parts 171 = .ok (.iload 12, 2) := by decide +kernel
theorem dX5_parts_173 : decode cX5_parts 173 = .ok (.lshl, 1) := by decide +kernel
theorem dX5_parts_174 : decode cX5_parts 174 = .ok (.lor, 1) := by decide +kernel
theorem dX5_parts_175 : decode cX5_parts 175 = .ok (.goto 5, 3) := by decide +kernel
theorem dX5_parts_178 : decode cX5_parts 178 = .ok (.lload 5, 2) := by decide +kernel
theorem dX5_parts_180 : decode cX5_parts 180 = .ok (.lstore 5, 2) := by decide +kernel
theorem dX5_parts_182 : decode cX5_parts 182 = .ok (.iload 12, 2) := by decide +kernel
theorem dX5_parts_184 : decode cX5_parts 184 = .ok (.bipush 64, 2) := by decide +kernel
theorem dX5_parts_186 : decode cX5_parts 186 = .ok (.if_icmp .ge 8, 3) := by decide +kernel
theorem dX5_parts_189 : decode cX5_parts 189 = .ok (.lload 7, 2) := by decide +kernel
theorem dX5_parts_191 : decode cX5_parts 191 = .ok (.goto 13, 3) := by decide +kernel
theorem dX5_parts_194 : decode cX5_parts 194 = .ok (.lload 7, 2) := by decide +kernel
theorem dX5_parts_196 : decode cX5_parts 196 = .ok (.lconst 1, 1) := by decide +kernel
theorem dX5_parts_197 : decode cX5_parts 197 = .ok (.iload 12, 2) := by decide +kernel
theorem dX5_parts_199 : decode cX5_parts 199 = .ok (.bipush 64, 2) := by decide +kernel
theorem dX5_parts_201 : decode cX5_parts 201 = .ok (.isub, 1) := by decide +kernel
theorem dX5_parts_202 : decode cX5_parts 202 = .ok (.lshl, 1) := by decide +kernel
theorem dX5_parts_203 : decode cX5_parts 203 = .ok (.lor, 1) := by decide +kernel
theorem dX5_parts_204 : decode cX5_parts 204 = .ok (.lstore 7, 2) := by decide +kernel
theorem dX5_parts_206 : decode cX5_parts 206 = .ok (.iload 12, 2) := by decide +kernel
theorem dX5_parts_208 : decode cX5_parts 208 = .ok (.iload_n 3, 1) := by decide +kernel
theorem dX5_parts_209 : decode cX5_parts 209 = .ok (.if_icmp .ge 8, 3) := by decide +kernel
theorem dX5_parts_212 : decode cX5_parts 212 = .ok (.iload 12, 2) := by decide +kernel
theorem dX5_parts_214 : decode cX5_parts 214 = .ok (.goto 4, 3) := by decide +kernel
theorem dX5_parts_217 : decode cX5_parts 217 = .ok (.iload_n 3, 1) := by decide +kernel
theorem dX5_parts_218 : decode cX5_parts 218 = .ok (.istore_n 3, 1) := by decide +kernel
theorem dX5_parts_219 : decode cX5_parts 219 = .ok (.iconst 1, 1) := by decide +kernel
theorem dX5_parts_220 : decode cX5_parts 220 = .ok (.istore 4, 2) := by decide +kernel
theorem dX5_parts_222 : decode cX5_parts 222 = .ok (.iinc 9 1, 3) := by decide +kernel
theorem dX5_parts_225 : decode cX5_parts 225 = .ok (.goto (-136), 3) := by decide +kernel
theorem dX5_parts_228 : decode cX5_parts 228 = .ok (.goto (-150), 3) := by decide +kernel
theorem dX5_parts_231 : decode cX5_parts 231 = .ok (.iload_n 1, 1) := by decide +kernel
theorem dX5_parts_232 : decode cX5_parts 232 = .ok (.iload_n 3, 1) := by decide +kernel
theorem dX5_parts_233 : decode cX5_parts 233 = .ok (.iload_n 2, 1) := by decide +kernel
theorem dX5_parts_234 : decode cX5_parts 234 = .ok (.if_icmp .ne 7, 3) := by decide +kernel
theorem dX5_parts_237 : decode cX5_parts 237 = .ok (.iconst 1, 1) := by decide +kernel
theorem dX5_parts_238 : decode cX5_parts 238 = .ok (.goto 4, 3) := by decide +kernel
theorem dX5_parts_241 : decode cX5_parts 241 = .ok (.iconst 0, 1) := by decide +kernel
theorem dX5_parts_242 : decode cX5_parts 242 = .ok (.iadd, 1) := by decide +kernel
theorem dX5_parts_243 : decode cX5_parts 243 = .ok (.istore_n 1, 1) := by decide +kernel
theorem dX5_parts_244 : decode cX5_parts 244 = .ok (.iinc 2 1, 3) := by decide +kernel
theorem dX5_parts_247 : decode cX5_parts 247 = .ok (.goto (-243), 3) := by decide +kernel
theorem dX5_parts_250 : decode cX5_parts 250 = .ok (.iload_n 1, 1) := by decide +kernel
theorem dX5_parts_251 : decode cX5_parts 251 = .ok (.ireturn, 1) := by decide +kernel
theorem dX5_in_0 : decode cX5_in 0 = .ok (.iload 4, 2) := by decide +kernel
theorem dX5_in_2 : decode cX5_in 2 = .ok (.bipush 64, 2) := by decide +kernel
theorem dX5_in_4 : decode cX5_in 4 = .ok (.if_icmp .ge 22, 3) := by decide +kernel
theorem dX5_in_7 : decode cX5_in 7 = .ok (.lload_n 0, 1) := by decide +kernel
theorem dX5_in_8 : decode cX5_in 8 = .ok (.iload 4, 2) := by decide +kernel
theorem dX5_in_10 : decode cX5_in 10 = .ok (.lshr, 1) := by decide +kernel
theorem dX5_in_11 : decode cX5_in 11 = .ok (.lconst 1, 1) := by decide +kernel
theorem dX5_in_12 : decode cX5_in 12 = .ok (.land, 1) := by decide +kernel
theorem dX5_in_13 : decode cX5_in 13 = .ok (.lconst 1, 1) := by decide +kernel
theorem dX5_in_14 : decode cX5_in 14 = .ok (.lcmp, 1) := by decide +kernel
theorem dX5_in_15 : decode cX5_in 15 = .ok (.ifCond .ne 7, 3) := by decide +kernel
theorem dX5_in_18 : decode cX5_in 18 = .ok (.iconst 1, 1) := by decide +kernel
theorem dX5_in_19 : decode cX5_in 19 = .ok (.goto 26, 3) := by decide +kernel
theorem dX5_in_22 : decode cX5_in 22 = .ok (.iconst 0, 1) := by decide +kernel
theorem dX5_in_23 : decode cX5_in 23 = .ok (.goto 22, 3) := by decide +kernel
theorem dX5_in_26 : decode cX5_in 26 = .ok (.lload_n 2, 1) := by decide +kernel
theorem dX5_in_27 : decode cX5_in 27 = .ok (.iload 4, 2) := by decide +kernel
theorem dX5_in_29 : decode cX5_in 29 = .ok (.bipush 64, 2) := by decide +kernel
theorem dX5_in_31 : decode cX5_in 31 = .ok (.isub, 1) := by decide +kernel
theorem dX5_in_32 : decode cX5_in 32 = .ok (.lshr, 1) := by decide +kernel
theorem dX5_in_33 : decode cX5_in 33 = .ok (.lconst 1, 1) := by decide +kernel
theorem dX5_in_34 : decode cX5_in 34 = .ok (.land, 1) := by decide +kernel
theorem dX5_in_35 : decode cX5_in 35 = .ok (.lconst 1, 1) := by decide +kernel
theorem dX5_in_36 : decode cX5_in 36 = .ok (.lcmp, 1) := by decide +kernel
theorem dX5_in_37 : decode cX5_in 37 = .ok (.ifCond .ne 7, 3) := by decide +kernel
theorem dX5_in_40 : decode cX5_in 40 = .ok (.iconst 1, 1) := by decide +kernel
theorem dX5_in_41 : decode cX5_in 41 = .ok (.goto 4, 3) := by decide +kernel
theorem dX5_in_44 : decode cX5_in 44 = .ok (.iconst 0, 1) := by decide +kernel
theorem dX5_in_45 : decode cX5_in 45 = .ok (.ireturn, 1) := by decide +kernel
set_option maxRecDepth 20000 in
theorem ggX5_size_X5_parts : GoodIn wsX5_size wsX5_parts := goodIn_r _ [10, 4, 5, 11, 12, 13, 14, 9, 15, 49, 50, 51, 52, 53, 54, 55, 56, 57, 58, 59, 60, 61, 62, 63, 64, 65, 66, 67, 68, 69, 70, 71, 72, 73, 74, 75] (by decide +kernel) (by decide +kernel)
set_option maxRecDepth 20000 in
theorem gX5_size_X5_parts : GoodIn wsX5_size (wsV RX5 156 RX5 yX5_parts wsX5_parts) := goodIn_app (goodIn_of _ (by decide +kernel)) ggX5_size_X5_parts
set_option maxRecDepth 20000 in
theorem ggX5_size_X5_pairs : GoodIn wsX5_size wsX5_pairs := goodIn_r _ [19, 3, 20, 21, 22, 9, 23, 24, 25, 26, 27, 28, 29, 30, 31, 32, 33, 34, 35, 36, 37, 38, 39, 40, 41, 42, 43, 44, 45, 46, 47, 48, 49, 50, 51, 52, 53, 54, 55, 56, 57, 58, 59, 60, 61, 62, 63, 64, 65, 66, 67, 68, 69, 70, 71, 72, 73, 74, 75] (by decide +kernel) (by decide +kernel)
set_option maxRecDepth 20000 in
theorem gX5_size_X5_pairs : GoodIn wsX5_size (wsV RX5 159 RX5 yX5_pairs wsX5_pairs) := goodIn_app (goodIn_of _ (by decide +kernel)) ggX5_size_X5_pairs
theorem dX5_size_0 : decode cX5_size 0 = .ok (.aload_n 0, 1) := by decide +kernel
theorem dX5_size_1 : decode cX5_size 1 = .ok (.aload_n 0, 1) := by decide +kernel
theorem dX5_size_2 : decode cX5_size 2 = .ok (.getfield 132, 3) := by decide +kernel
theorem dX5_size_5 : decode cX5_size 5 = .ok (.ifCond .ne 7, 3) := by decide +kernel
theorem dX5_size_8 : decode cX5_size 8 = .ok (.iconst 1, 1) := by decide +kernel
theorem dX5_size_9 : decode cX5_size 9 = .ok (.goto 17, 3) := by decide +kernel
theorem dX5_size_12 : decode cX5_size 12 = .ok (.iload_n 1, 1) := by decide +kernel
theorem dX5_size_13 : decode cX5_size 13 = .ok (.ifCond .lt 8, 3) := by decide +kernel
theorem dX5_size_16 : decode cX5_size 16 = .ok (.iload_n 1, 1) := by decide +kernel
theorem dX5_size_17 : decode cX5_size 17 = .ok (.iconst 4, 1) := by decide +kernel
theorem dX5_size_18 : decode cX5_size 18 = .ok (.if_icmp .le 7, 3) := by decide +kernel
theorem dX5_size_21 : decode cX5_size 21 = .ok (.iconst 2, 1) := by decide +kernel
theorem dX5_size_22 : decode cX5_size 22 = .ok (.goto 4, 3) := by decide +kernel
theorem dX5_size_25 : decode cX5_size 25 = .ok (.iconst 0, 1) := by decide +kernel
theorem dX5_size_26 : decode cX5_size 26 = .ok (.putfield 59, 3) := by decide +kernel
theorem dX5_size_29 : decode cX5_size 29 = .ok (.aload_n 0, 1) := by decide +kernel
theorem dX5_size_30 : decode cX5_size 30 = .ok (.getfield 59, 3) := by decide +kernel
theorem dX5_size_33 : decode cX5_size 33 = .ok (.ifCond .le 5, 3) := by decide +kernel
theorem dX5_size_36 : decode cX5_size 36 = .ok (.iconst 0, 1) := by decide +kernel
theorem dX5_size_37 : decode cX5_size 37 = .ok (.ireturn, 1) := by decide +kernel
theorem dX5_size_38 : decode cX5_size 38 = .ok (.iload_n 1, 1) := by decide +kernel
theorem dX5_size_39 : decode cX5_size 39 = .ok (.ifCond .ne 10, 3) := by decide +kernel
theorem dX5_size_42 : decode cX5_size 42 = .ok (.aload_n 0, 1) := by decide +kernel
theorem dX5_size_43 : decode cX5_size 43 = .ok (.getfield 92, 3) := by decide +kernel
theorem dX5_size_46 : decode cX5_size 46 = .ok (.goto 55, 3) := by decide +kernel
theorem dX5_size_49 : decode cX5_size 49 = .ok (.iload_n 1, 1) := by decide +kernel
theorem dX5_size_50 : decode cX5_size 50 = .ok (.iconst 1, 1) := by decide +kernel
theorem dX5_size_51 : decode cX5_size 51 = .ok (.if_icmp .ne 10, 3) := by decide +kernel
theorem dX5_size_54 : decode cX5_size 54 = .ok (.aload_n 0, 1) := by decide +kernel
theorem dX5_size_55 : decode cX5_size 55 = .ok (.getfield 67, 3) := by decide +kernel
theorem dX5_size_58 : decode cX5_size 58 = .ok (.goto 43, 3) := by decide +kernel
theorem dX5_size_61 : decode cX5_size 61 = .ok (.iload_n 1, 1) := by decide +kernel
theorem dX5_size_62 : decode cX5_size 62 = .ok (.iconst 2, 1) := by decide +kernel
theorem dX5_size_63 : decode cX5_size 63 = .ok (.if_icmp .ne 10, 3) := by decide +kernel
theorem dX5_size_66 : decode cX5_size 66 = .ok (.aload_n 0, 1) := by decide +kernel
theorem dX5_size_67 : decode cX5_size 67 = .ok (.getfield 116, 3) := by decide +kernel
theorem dX5_size_70 : decode cX5_size 70 = .ok (.goto 31, 3) := by decide +kernel
theorem dX5_size_73 : decode cX5_size 73 = .ok (.iload_n 1, 1) := by decide +kernel
theorem dX5_size_74 : decode cX5_size 74 = .ok (.iconst 3, 1) := by decide +kernel
theorem dX5_size_75 : decode cX5_size 75 = .ok (.if_icmp .ne 22, 3) := by decide +kernel
theorem dX5_size_78 : decode cX5_size 78 = .ok (.aload_n 0, 1) := by decide +kernel
theorem dX5_size_79 : decode cX5_size 79 = .ok (.getfield 116, 3) := by decide +kernel
theorem dX5_size_82 : decode cX5_size 82 = .ok (.aload_n 0, 1) := by decide +kernel
theorem dX5_size_83 : decode cX5_size 83 = .ok (.getfield 67, 3) := by decide +kernel
theorem dX5_size_86 : decode cX5_size 86 = .ok (.isub, 1) := by decide +kernel
theorem dX5_size_87 : decode cX5_size 87 = .ok (.iconst 1, 1) := by decide +kernel
theorem dX5_size_88 : decode cX5_size 88 = .ok (.iadd, 1) := by decide +kernel
theorem dX5_size_89 : decode cX5_size 89 = .ok (.aload_n 0, 1) := by decide +kernel
theorem dX5_size_90 : decode cX5_size 90 = .ok (.invokevirtual 156, 3) := by decide +kernel
theorem dX5_size_93 : decode cX5_size 93 = .ok (.iadd, 1) := by decide +kernel
theorem dX5_size_94 : decode cX5_size 94 = .ok (.goto 7, 3) := by decide +kernel
theorem dX5_size_97 : decode cX5_size 97 = .ok (.aload_n 0, 1) := by decide +kernel
theorem dX5_size_98 : decode cX5_size 98 = .ok (.invokevirtual 159, 3) := by decide +kernel
theorem dX5_size_101 : decode cX5_size 101 = .ok (.ireturn, 1) := by decide +kernel
theorem dX5_point_0 : decode cX5_point 0 = .ok (.aload_n 0, 1) := by decide +kernel
theorem dX5_point_1 : decode cX5_point 1 = .ok (.aload_n 0, 1) := by decide +kernel
theorem dX5_point_2 : decode cX5_point 2 = .ok (.getfield 132, 3) := by decide +kernel
theorem dX5_point_5 : decode cX5_point 5 = .ok (.ifCond .ne 7, 3) := by decide +kernel
theorem dX5_point_8 : decode cX5_point 8 = .ok (.iconst 1, 1) := by decide +kernel
theorem dX5_point_9 : decode cX5_point 9 = .ok (.goto 33, 3) := by decide +kernel
theorem dX5_point_12 : decode cX5_point 12 = .ok (.iload_n 1, 1) := by decide +kernel
theorem dX5_point_13 : decode cX5_point 13 = .ok (.ifCond .lt 11, 3) := by decide +kernel
theorem dX5_point_16 : decode cX5_point 16 = .ok (.iload_n 1, 1) := by decide +kernel
theorem dX5_point_17 : decode cX5_point 17 = .ok (.aload_n 0, 1) := by decide +kernel
theorem dX5_point_18 : decode cX5_point 18 = .ok (.getfield 67, 3) := by decide +kernel
theorem dX5_point_21 : decode cX5_point 21 = .ok (.if_icmp .lt 7, 3) := by decide +kernel
theorem dX5_point_24 : decode cX5_point 24 = .ok (.iconst 2, 1) := by decide +kernel
theorem dX5_point_25 : decode cX5_point 25 = .ok (.goto 17, 3) := by decide +kernel
theorem dX5_point_28 : decode cX5_point 28 = .ok (.iload_n 2, 1) := by decide +kernel
theorem dX5_point_29 : decode cX5_point 29 = .ok (.ifCond .lt 8, 3) := by decide +kernel
theorem dX5_point_32 : decode cX5_point 32 = .ok (.iload_n 2, 1) := by decide +kernel
theorem dX5_point_33 : decode cX5_point 33 = .ok (.iconst 2, 1) := by decide +kernel
theorem dX5_point_34 : decode cX5_point 34 = .ok (.if_icmp .le 7, 3) := by decide +kernel
theorem dX5_point_37 : decode cX5_point 37 = .ok (.iconst 3, 1) := by decide +kernel
theorem dX5_point_38 : decode cX5_point 38 = .ok (.goto 4, 3) := by decide +kernel
theorem dX5_point_41 : decode cX5_point 41 = .ok (.iconst 0, 1) := by decide +kernel
theorem dX5_point_42 : decode cX5_point 42 = .ok (.putfield 59, 3) := by decide +kernel
theorem dX5_point_45 : decode cX5_point 45 = .ok (.aload_n 0, 1) := by decide +kernel
theorem dX5_point_46 : decode cX5_point 46 = .ok (.getfield 59, 3) := by decide +kernel
theorem dX5_point_49 : decode cX5_point 49 = .ok (.ifCond .le 5, 3) := by decide +kernel
theorem dX5_point_52 : decode cX5_point 52 = .ok (.iconst 0, 1) := by decide +kernel
theorem dX5_point_53 : decode cX5_point 53 = .ok (.ireturn, 1) := by decide +kernel
theorem dX5_point_54 : decode cX5_point 54 = .ok (.iload_n 2, 1) := by decide +kernel
theorem dX5_point_55 : decode cX5_point 55 = .ok (.ifCond .ne 12, 3) := by decide +kernel
theorem dX5_point_58 : decode cX5_point 58 = .ok (.aload_n 0, 1) := by decide +kernel
theorem dX5_point_59 : decode cX5_point 59 = .ok (.getfield 34, 3) := by decide +kernel
theorem dX5_point_62 : decode cX5_point 62 = .ok (.iload_n 1, 1) := by decide +kernel
theorem dX5_point_63 : decode cX5_point 63 = .ok (.iaload, 1) := by decide +kernel
theorem dX5_point_64 : decode cX5_point 64 = .ok (.goto 23, 3) := by decide +kernel
theorem dX5_point_67 : decode cX5_point 67 = .ok (.iload_n 2, 1) := by decide +kernel
theorem dX5_point_68 : decode cX5_point 68 = .ok (.iconst 1, 1) := by decide +kernel
theorem dX5_point_69 : decode cX5_point 69 = .ok (.if_icmp .ne 12, 3) := by decide +kernel
theorem dX5_point_72 : decode cX5_point 72 = .ok (.aload_n 0, 1) := by decide +kernel
theorem dX5_point_73 : decode cX5_point 73 = .ok (.getfield 37, 3) := by decide +kernel
theorem dX5_point_76 : decode cX5_point 76 = .ok (.iload_n 1, 1) := by decide +kernel
theorem dX5_point_77 : decode cX5_point 77 = .ok (.iaload, 1) := by decide +kernel
theorem dX5_point_78 : decode cX5_point 78 = .ok (.goto 9, 3) := by decide +kernel
theorem dX5_point_81 : decode cX5_point 81 = .ok (.aload_n 0, 1) := by decide +kernel
theorem dX5_point_82 : decode cX5_point 82 = .ok (.getfield 40, 3) := by decide +kernel
theorem dX5_point_85 : decode cX5_point 85 = .ok (.iload_n 1, 1) := by decide +kernel
theorem dX5_point_86 : decode cX5_point 86 = .ok (.iaload, 1) := by decide +kernel
theorem dX5_point_87 : decode cX5_point 87 = .ok (.ireturn, 1) := by decide +kernel
theorem dX5_piece_0 : decode cX5_piece 0 = .ok (.aload_n 0, 1) := by decide +kernel
theorem dX5_piece_1 : decode cX5_piece 1 = .ok (.aload_n 0, 1) := by decide +kernel
theorem dX5_piece_2 : decode cX5_piece 2 = .ok (.getfield 132, 3) := by decide +kernel
theorem dX5_piece_5 : decode cX5_piece 5 = .ok (.ifCond .ne 7, 3) := by decide +kernel
theorem dX5_piece_8 : decode cX5_piece 8 = .ok (.iconst 1, 1) := by decide +kernel
theorem dX5_piece_9 : decode cX5_piece 9 = .ok (.goto 34, 3) := by decide +kernel
theorem dX5_piece_12 : decode cX5_piece 12 = .ok (.iload_n 1, 1) := by decide +kernel
theorem dX5_piece_13 : decode cX5_piece 13 = .ok (.ifCond .lt 11, 3) := by decide +kernel
theorem dX5_piece_16 : decode cX5_piece 16 = .ok (.iload_n 1, 1) := by decide +kernel
theorem dX5_piece_17 : decode cX5_piece 17 = .ok (.aload_n 0, 1) := by decide +kernel
theorem dX5_piece_18 : decode cX5_piece 18 = .ok (.getfield 116, 3) := by decide +kernel
theorem dX5_piece_21 : decode cX5_piece 21 = .ok (.if_icmp .lt 7, 3) := by decide +kernel
theorem dX5_piece_24 : decode cX5_piece 24 = .ok (.iconst 2, 1) := by decide +kernel
theorem dX5_piece_25 : decode cX5_piece 25 = .ok (.goto 18, 3) := by decide +kernel
theorem dX5_piece_28 : decode cX5_piece 28 = .ok (.iload_n 2, 1) := by decide +kernel
theorem dX5_piece_29 : decode cX5_piece 29 = .ok (.ifCond .lt 9, 3) := by decide +kernel
theorem dX5_piece_32 : decode cX5_piece 32 = .ok (.iload_n 2, 1) := by decide +kernel
theorem dX5_piece_33 : decode cX5_piece 33 = .ok (.bipush 7, 2) := by decide +kernel
theorem dX5_piece_35 : decode cX5_piece 35 = .ok (.if_icmp .le 7, 3) := by decide +kernel
theorem dX5_piece_38 : decode cX5_piece 38 = .ok (.iconst 3, 1) := by decide +kernel
theorem dX5_piece_39 : decode cX5_piece 39 = .ok (.goto 4, 3) := by decide +kernel
theorem dX5_piece_42 : decode cX5_piece 42 = .ok (.iconst 0, 1) := by decide +kernel
theorem dX5_piece_43 : decode cX5_piece 43 = .ok (.putfield 59, 3) := by decide +kernel
theorem dX5_piece_46 : decode cX5_piece 46 = .ok (.aload_n 0, 1) := by decide +kernel
theorem dX5_piece_47 : decode cX5_piece 47 = .ok (.getfield 59, 3) := by decide +kernel
theorem dX5_piece_50 : decode cX5_piece 50 = .ok (.ifCond .le 5, 3) := by decide +kernel
theorem dX5_piece_53 : decode cX5_piece 53 = .ok (.iconst 0, 1) := by decide +kernel
theorem dX5_piece_54 : decode cX5_piece 54 = .ok (.ireturn, 1) := by decide +kernel
theorem dX5_piece_55 : decode cX5_piece 55 = .ok (.iload_n 2, 1) := by decide +kernel
theorem dX5_piece_56 : decode cX5_piece 56 = .ok (.iconst 4, 1) := by decide +kernel
theorem dX5_piece_57 : decode cX5_piece 57 = .ok (.if_icmp .ge 43, 3) := by decide +kernel
theorem dX5_piece_60 : decode cX5_piece 60 = .ok (.iload_n 2, 1) := by decide +kernel
theorem dX5_piece_61 : decode cX5_piece 61 = .ok (.ifCond .ne 12, 3) := by decide +kernel
theorem dX5_piece_64 : decode cX5_piece 64 = .ok (.aload_n 0, 1) := by decide +kernel
theorem dX5_piece_65 : decode cX5_piece 65 = .ok (.getfield 43, 3) := by decide +kernel
theorem dX5_piece_68 : decode cX5_piece 68 = .ok (.iload_n 1, 1) := by decide +kernel
theorem dX5_piece_69 : decode cX5_piece 69 = .ok (.iaload, 1) := by decide +kernel
theorem dX5_piece_70 : decode cX5_piece 70 = .ok (.goto 29, 3) := by decide +kernel
theorem dX5_piece_73 : decode cX5_piece 73 = .ok (.iload_n 2, 1) := by decide +kernel
theorem dX5_piece_74 : decode cX5_piece 74 = .ok (.iconst 1, 1) := by decide +kernel
theorem dX5_piece_75 : decode cX5_piece 75 = .ok (.if_icmp .ne 12, 3) := by decide +kernel
theorem dX5_piece_78 : decode cX5_piece 78 = .ok (.aload_n 0, 1) := by decide +kernel
theorem dX5_piece_79 : decode cX5_piece 79 = .ok (.getfield 46, 3) := by decide +kernel
theorem dX5_piece_82 : decode cX5_piece 82 = .ok (.iload_n 1, 1) := by decide +kernel
theorem dX5_piece_83 : decode cX5_piece 83 = .ok (.iaload, 1) := by decide +kernel
theorem dX5_piece_84 : decode cX5_piece 84 = .ok (.goto 15, 3) := by decide +kernel
theorem dX5_piece_87 : decode cX5_piece 87 = .ok (.aload_n 0, 1) := by decide +kernel
theorem dX5_piece_88 : decode cX5_piece 88 = .ok (.getfield 49, 3) := by decide +kernel
theorem dX5_piece_91 : decode cX5_piece 91 = .ok (.iconst 2, 1) := by decide +kernel
theorem dX5_piece_92 : decode cX5_piece 92 = .ok (.iload_n 1, 1) := by decide +kernel
theorem dX5_piece_93 : decode cX5_piece 93 = .ok (.imul, 1) := by decide +kernel
theorem dX5_piece_94 : decode cX5_piece 94 = .ok (.iload_n 2, 1) := by decide +kernel
theorem dX5_piece_95 : decode cX5_piece 95 = .ok (.iadd, 1) := by decide +kernel
theorem dX5_piece_96 : decode cX5_piece 96 = .ok (.iconst 2, 1) := by decide +kernel
theorem dX5_piece_97 : decode cX5_piece 97 = .ok (.isub, 1) := by decide +kernel
theorem dX5_piece_98 : decode cX5_piece 98 = .ok (.iaload, 1) := by decide +kernel
theorem dX5_piece_99 : decode cX5_piece 99 = .ok (.ireturn, 1) := by decide +kernel
theorem dX5_piece_100 : decode cX5_piece 100 = .ok (.iload_n 2, 1) := by decide +kernel
theorem dX5_piece_101 : decode cX5_piece 101 = .ok (.bipush 6, 2) := by decide +kernel
theorem dX5_piece_103 : decode cX5_piece 103 = .ok (.if_icmp .ge 18, 3) := by decide +kernel
theorem dX5_piece_106 : decode cX5_piece 106 = .ok (.aload_n 0, 1) := by decide +kernel
theorem dX5_piece_107 : decode cX5_piece 107 = .ok (.getfield 52, 3) := by decide +kernel
theorem dX5_piece_110 : decode cX5_piece 110 = .ok (.iconst 2, 1) := by decide +kernel
theorem dX5_piece_111 : decode cX5_piece 111 = .ok (.iload_n 1, 1) := by decide +kernel
theorem dX5_piece_112 : decode cX5_piece 112 = .ok (.imul, 1) := by decide +kernel
theorem dX5_piece_113 : decode cX5_piece 113 = .ok (.iload_n 2, 1) := by decide +kernel
theorem dX5_piece_114 : decode cX5_piece 114 = .ok (.iadd, 1) := by decide +kernel
theorem dX5_piece_115 : decode cX5_piece 115 = .ok (.iconst 4, 1) := by decide +kernel
theorem dX5_piece_116 : decode cX5_piece 116 = .ok (.isub, 1) := by decide +kernel
theorem dX5_piece_117 : decode cX5_piece 117 = .ok (.baload, 1) := by decide +kernel
theorem dX5_piece_118 : decode cX5_piece 118 = .ok (.goto 16, 3) := by decide +kernel
theorem dX5_piece_121 : decode cX5_piece 121 = .ok (.aload_n 0, 1) := by decide +kernel
theorem dX5_piece_122 : decode cX5_piece 122 = .ok (.getfield 56, 3) := by decide +kernel
theorem dX5_piece_125 : decode cX5_piece 125 = .ok (.iconst 2, 1) := by decide +kernel
theorem dX5_piece_126 : decode cX5_piece 126 = .ok (.iload_n 1, 1) := by decide +kernel
theorem dX5_piece_127 : decode cX5_piece 127 = .ok (.imul, 1) := by decide +kernel
theorem dX5_piece_128 : decode cX5_piece 128 = .ok (.iload_n 2, 1) := by decide +kernel
theorem dX5_piece_129 : decode cX5_piece 129 = .ok (.iadd, 1) := by decide +kernel
theorem dX5_piece_130 : decode cX5_piece 130 = .ok (.bipush 6, 2) := by decide +kernel
theorem dX5_piece_132 : decode cX5_piece 132 = .ok (.isub, 1) := by decide +kernel
theorem dX5_piece_133 : decode cX5_piece 133 = .ok (.baload, 1) := by decide +kernel
theorem dX5_piece_134 : decode cX5_piece 134 = .ok (.istore_n 3, 1) := by decide +kernel
theorem dX5_piece_135 : decode cX5_piece 135 = .ok (.iload_n 3, 1) := by decide +kernel
theorem dX5_piece_136 : decode cX5_piece 136 = .ok (.ifCond .eq 7, 3) := by decide +kernel
theorem dX5_piece_139 : decode cX5_piece 139 = .ok (.iconst 1, 1) := by decide +kernel
theorem dX5_piece_140 : decode cX5_piece 140 = .ok (.goto 4, 3) := by decide +kernel
theorem dX5_piece_143 : decode cX5_piece 143 = .ok (.iconst 0, 1) := by decide +kernel
theorem dX5_piece_144 : decode cX5_piece 144 = .ok (.ireturn, 1) := by decide +kernel
theorem dX5_noEdges_0 : decode cX5_noEdges 0 = .ok (.iload_n 1, 1) := by decide +kernel
theorem dX5_noEdges_1 : decode cX5_noEdges 1 = .ok (.ifCond .lt 23, 3) := by decide +kernel
theorem dX5_noEdges_4 : decode cX5_noEdges 4 = .ok (.iload_n 1, 1) := by decide +kernel
theorem dX5_noEdges_5 : decode cX5_noEdges 5 = .ok (.aload_n 0, 1) := by decide +kernel
theorem dX5_noEdges_6 : decode cX5_noEdges 6 = .ok (.getfield 92, 3) := by decide +kernel
theorem dX5_noEdges_9 : decode cX5_noEdges 9 = .ok (.if_icmp .ge 15, 3) := by decide +kernel
theorem dX5_noEdges_12 : decode cX5_noEdges 12 = .ok (.iload_n 2, 1) := by decide +kernel
theorem dX5_noEdges_13 : decode cX5_noEdges 13 = .ok (.ifCond .lt 11, 3) := by decide +kernel
theorem dX5_noEdges_16 : decode cX5_noEdges 16 = .ok (.iload_n 2, 1) := by decide +kernel
theorem dX5_noEdges_17 : decode cX5_noEdges 17 = .ok (.aload_n 0, 1) := by decide +kernel
theorem dX5_noEdges_18 : decode cX5_noEdges 18 = .ok (.getfield 92, 3) := by decide +kernel
theorem dX5_noEdges_21 : decode cX5_noEdges 21 = .ok (.if_icmp .lt 7, 3) := by decide +kernel
theorem dX5_noEdges_24 : decode cX5_noEdges 24 = .ok (.iconst 1, 1) := by decide +kernel
theorem dX5_noEdges_25 : decode cX5_noEdges 25 = .ok (.goto 4, 3) := by decide +kernel
theorem dX5_noEdges_28 : decode cX5_noEdges 28 = .ok (.iconst 0, 1) := by decide +kernel
theorem dX5_noEdges_29 : decode cX5_noEdges 29 = .ok (.ireturn, 1) := by decide +kernel
set_option maxRecDepth 20000 in
theorem ggX5_common_X5_noEdges : GoodIn wsX5_common wsX5_noEdges := goodIn_r _ [7, 8, 38, 39, 40, 41, 42, 43, 44, 45, 46, 47, 48, 49, 50, 51, 52, 53, 54, 55, 56, 57, 58, 59, 60, 61, 62, 63, 64] (by decide +kernel) (by decide +kernel)
set_option maxRecDepth 20000 in
theorem gX5_common_X5_noEdges : GoodIn wsX5_common (wsV RX5 162 RX5 yX5_noEdges wsX5_noEdges) := goodIn_app (goodIn_of _ (by decide +kernel)) ggX5_common_X5_noEdges
set_option maxRecDepth 20000 in
theorem ggX5_common_X5_meet : GoodIn wsX5_common wsX5_meet := goodIn_r _ [12, 13, 14, 15, 16, 17, 18, 19, 20, 21, 22, 23, 24, 25, 6, 26, 27, 28, 29, 30, 31, 32, 33, 34, 35, 36, 37, 38, 39, 40, 41, 42, 43, 44, 45, 46, 47, 48, 49, 50, 51, 52, 53, 54, 55, 56, 57, 58, 59, 60, 61, 62, 63, 64] (by decide +kernel) (by decide +kernel)
set_option maxRecDepth 20000 in
theorem gX5_common_X5_meet : GoodIn wsX5_common (wsV RX5 142 RX5 yX5_meet wsX5_meet) := goodIn_app (goodIn_of _ (by decide +kernel)) ggX5_common_X5_meet
theorem dX5_common_0 : decode cX5_common 0 = .ok (.aload_n 0, 1) := by decide +kernel
theorem dX5_common_1 : decode cX5_common 1 = .ok (.aload_n 0, 1) := by decide +kernel
theorem dX5_common_2 : decode cX5_common 2 = .ok (.getfield 132, 3) := by decide +kernel
theorem dX5_common_5 : decode cX5_common 5 = .ok (.ifCond .ne 7, 3) := by decide +kernel
theorem dX5_common_8 : decode cX5_common 8 = .ok (.iconst 1, 1) := by decide +kernel
theorem dX5_common_9 : decode cX5_common 9 = .ok (.goto 17, 3) := by decide +kernel
theorem dX5_common_12 : decode cX5_common 12 = .ok (.aload_n 0, 1) := by decide +kernel
theorem dX5_common_13 : decode cX5_common 13 = .ok (.iload_n 1, 1) := by decide +kernel
theorem dX5_common_14 : decode cX5_common 14 = .ok (.iload_n 2, 1) := by decide +kernel
theorem dX5_common_15 : decode cX5_common 15 = .ok (.invokevirtual 162, 3) := by decide +kernel
theorem dX5_common_18 : decode cX5_common 18 = .ok (.ifCond .eq 7, 3) := by decide +kernel
theorem dX5_common_21 : decode cX5_common 21 = .ok (.iconst 2, 1) := by decide +kernel
theorem dX5_common_22 : decode cX5_common 22 = .ok (.goto 4, 3) := by decide +kernel
theorem dX5_common_25 : decode cX5_common 25 = .ok (.iconst 0, 1) := by decide +kernel
theorem dX5_common_26 : decode cX5_common 26 = .ok (.putfield 59, 3) := by decide +kernel
theorem dX5_common_29 : decode cX5_common 29 = .ok (.aload_n 0, 1) := by decide +kernel
theorem dX5_common_30 : decode cX5_common 30 = .ok (.getfield 59, 3) := by decide +kernel
theorem dX5_common_33 : decode cX5_common 33 = .ok (.ifCond .gt 8, 3) := by decide +kernel
theorem dX5_common_36 : decode cX5_common 36 = .ok (.iload_n 1, 1) := by decide +kernel
theorem dX5_common_37 : decode cX5_common 37 = .ok (.iload_n 2, 1) := by decide +kernel
theorem dX5_common_38 : decode cX5_common 38 = .ok (.if_icmp .ne 7, 3) := by decide +kernel
theorem dX5_common_41 : decode cX5_common 41 = .ok (.iconst 0, 1) := by decide +kernel
theorem dX5_common_42 : decode cX5_common 42 = .ok (.goto 9, 3) := by decide +kernel
theorem dX5_common_45 : decode cX5_common 45 = .ok (.aload_n 0, 1) := by decide +kernel
theorem dX5_common_46 : decode cX5_common 46 = .ok (.iload_n 1, 1) := by decide +kernel
theorem dX5_common_47 : decode cX5_common 47 = .ok (.iload_n 2, 1) := by decide +kernel
theorem dX5_common_48 : decode cX5_common 48 = .ok (.invokevirtual 142, 3) := by decide +kernel
theorem dX5_common_51 : decode cX5_common 51 = .ok (.ireturn, 1) := by decide +kernel
set_option maxRecDepth 20000 in
theorem ggX5_shared_X5_noEdges : GoodIn wsX5_shared wsX5_noEdges := goodIn_r _ [13, 14, 46, 47, 48, 49, 50, 51, 52, 53, 54, 55, 56, 57, 58, 59, 60, 61, 62, 63, 64, 65, 66, 67, 68, 69, 70, 71, 72] (by decide +kernel) (by decide +kernel)
set_option maxRecDepth 20000 in
theorem gX5_shared_X5_noEdges : GoodIn wsX5_shared (wsV RX5 162 RX5 yX5_noEdges wsX5_noEdges) := goodIn_app (goodIn_of _ (by decide +kernel)) ggX5_shared_X5_noEdges
set_option maxRecDepth 20000 in
theorem ggX5_shared_X5_meet : GoodIn wsX5_shared wsX5_meet := goodIn_r _ [18, 19, 20, 21, 22, 4, 6, 8, 3, 5, 7, 23, 24, 25, 12, 26, 27, 28, 29, 30, 31, 32, 33, 34, 35, 36, 37, 46, 47, 48, 49, 50, 51, 52, 53, 54, 55, 56, 57, 58, 59, 60, 61, 62, 63, 64, 65, 66, 67, 68, 69, 70, 71, 72] (by decide +kernel) (by decide +kernel)
set_option maxRecDepth 20000 in
theorem gX5_shared_X5_meet : GoodIn wsX5_shared (wsV RX5 142 RX5 yX5_meet wsX5_meet) := goodIn_app (goodIn_of _ (by decide +kernel)) ggX5_shared_X5_meet
set_option maxRecDepth 20000 in
theorem ggX5_shared_X5_find : GoodIn wsX5_shared wsX5_find := goodIn_r _ [41, 42, 43, 44, 45, 4, 6, 8, 31, 32, 12, 33, 46, 47, 48, 49, 50, 51, 52, 53, 54, 55, 56, 57, 58, 59, 60, 61, 62, 63, 64, 65, 66, 67, 68, 69, 70, 71, 72] (by decide +kernel) (by decide +kernel)
set_option maxRecDepth 20000 in
theorem gX5_shared_X5_find : GoodIn wsX5_shared (wsV RX5 88 RX5 yX5_find wsX5_find) := goodIn_app (goodIn_of _ (by decide +kernel)) ggX5_shared_X5_find
theorem dX5_shared_0 : decode cX5_shared 0 = .ok (.aload_n 0, 1) := by decide +kernel
theorem dX5_shared_1 : decode cX5_shared 1 = .ok (.aload_n 0, 1) := by decide +kernel
theorem dX5_shared_2 : decode cX5_shared 2 = .ok (.getfield 132, 3) := by decide +kernel
theorem dX5_shared_5 : decode cX5_shared 5 = .ok (.ifCond .ne 7, 3) := by decide +kernel
theorem dX5_shared_8 : decode cX5_shared 8 = .ok (.iconst 1, 1) := by decide +kernel
theorem dX5_shared_9 : decode cX5_shared 9 = .ok (.goto 17, 3) := by decide +kernel
theorem dX5_shared_12 : decode cX5_shared 12 = .ok (.aload_n 0, 1) := by decide +kernel
theorem dX5_shared_13 : decode cX5_shared 13 = .ok (.iload_n 1, 1) := by decide +kernel
theorem dX5_shared_14 : decode cX5_shared 14 = .ok (.iload_n 2, 1) := by decide +kernel
theorem dX5_shared_15 : decode cX5_shared 15 = .ok (.invokevirtual 162, 3) := by decide +kernel
theorem dX5_shared_18 : decode cX5_shared 18 = .ok (.ifCond .eq 7, 3) := by decide +kernel
theorem dX5_shared_21 : decode cX5_shared 21 = .ok (.iconst 2, 1) := by decide +kernel
theorem dX5_shared_22 : decode cX5_shared 22 = .ok (.goto 4, 3) := by decide +kernel
theorem dX5_shared_25 : decode cX5_shared 25 = .ok (.iconst 0, 1) := by decide +kernel
theorem dX5_shared_26 : decode cX5_shared 26 = .ok (.putfield 59, 3) := by decide +kernel
theorem dX5_shared_29 : decode cX5_shared 29 = .ok (.aload_n 0, 1) := by decide +kernel
theorem dX5_shared_30 : decode cX5_shared 30 = .ok (.getfield 59, 3) := by decide +kernel
theorem dX5_shared_33 : decode cX5_shared 33 = .ok (.ifCond .le 5, 3) := by decide +kernel
theorem dX5_shared_36 : decode cX5_shared 36 = .ok (.iconst 0, 1) := by decide +kernel
theorem dX5_shared_37 : decode cX5_shared 37 = .ok (.ireturn, 1) := by decide +kernel
theorem dX5_shared_38 : decode cX5_shared 38 = .ok (.iload_n 1, 1) := by decide +kernel
theorem dX5_shared_39 : decode cX5_shared 39 = .ok (.iload_n 2, 1) := by decide +kernel
theorem dX5_shared_40 : decode cX5_shared 40 = .ok (.if_icmp .ne 7, 3) := by decide +kernel
theorem dX5_shared_43 : decode cX5_shared 43 = .ok (.iconst 0, 1) := by decide +kernel
theorem dX5_shared_44 : decode cX5_shared 44 = .ok (.goto 9, 3) := by decide +kernel
theorem dX5_shared_47 : decode cX5_shared 47 = .ok (.aload_n 0, 1) := by decide +kernel
theorem dX5_shared_48 : decode cX5_shared 48 = .ok (.iload_n 1, 1) := by decide +kernel
theorem dX5_shared_49 : decode cX5_shared 49 = .ok (.iload_n 2, 1) := by decide +kernel
theorem dX5_shared_50 : decode cX5_shared 50 = .ok (.invokevirtual 142, 3) := by decide +kernel
theorem dX5_shared_53 : decode cX5_shared 53 = .ok (.istore 4, 2) := by decide +kernel
theorem dX5_shared_55 : decode cX5_shared 55 = .ok (.iload 4, 2) := by decide +kernel
theorem dX5_shared_57 : decode cX5_shared 57 = .ok (.ifCond .ne 10, 3) := by decide +kernel
theorem dX5_shared_60 : decode cX5_shared 60 = .ok (.aload_n 0, 1) := by decide +kernel
theorem dX5_shared_61 : decode cX5_shared 61 = .ok (.iconst 3, 1) := by decide +kernel
theorem dX5_shared_62 : decode cX5_shared 62 = .ok (.putfield 59, 3) := by decide +kernel
theorem dX5_shared_65 : decode cX5_shared 65 = .ok (.iconst 0, 1) := by decide +kernel
theorem dX5_shared_66 : decode cX5_shared 66 = .ok (.ireturn, 1) := by decide +kernel
theorem dX5_shared_67 : decode cX5_shared 67 = .ok (.aload_n 0, 1) := by decide +kernel
theorem dX5_shared_68 : decode cX5_shared 68 = .ok (.iload_n 3, 1) := by decide +kernel
theorem dX5_shared_69 : decode cX5_shared 69 = .ok (.ifCond .eq 10, 3) := by decide +kernel
theorem dX5_shared_72 : decode cX5_shared 72 = .ok (.aload_n 0, 1) := by decide +kernel
theorem dX5_shared_73 : decode cX5_shared 73 = .ok (.getfield 103, 3) := by decide +kernel
theorem dX5_shared_76 : decode cX5_shared 76 = .ok (.goto 7, 3) := by decide +kernel
theorem dX5_shared_79 : decode cX5_shared 79 = .ok (.aload_n 0, 1) := by decide +kernel
theorem dX5_shared_80 : decode cX5_shared 80 = .ok (.getfield 70, 3) := by decide +kernel
theorem dX5_shared_83 : decode cX5_shared 83 = .ok (.putfield 70, 3) := by decide +kernel
theorem dX5_shared_86 : decode cX5_shared 86 = .ok (.aload_n 0, 1) := by decide +kernel
theorem dX5_shared_87 : decode cX5_shared 87 = .ok (.iload_n 3, 1) := by decide +kernel
theorem dX5_shared_88 : decode cX5_shared 88 = .ok (.ifCond .eq 10, 3) := by decide +kernel
theorem dX5_shared_91 : decode cX5_shared 91 = .ok (.aload_n 0, 1) := by decide +kernel
theorem dX5_shared_92 : decode cX5_shared 92 = .ok (.getfield 106, 3) := by decide +kernel
theorem dX5_shared_95 : decode cX5_shared 95 = .ok (.goto 7, 3) := by decide +kernel
theorem dX5_shared_98 : decode cX5_shared 98 = .ok (.aload_n 0, 1) := by decide +kernel
theorem dX5_shared_99 : decode cX5_shared 99 = .ok (.getfield 74, 3) := by decide +kernel
theorem dX5_shared_102 : decode cX5_shared 102 = .ok (.putfield 74, 3) := by decide +kernel
theorem dX5_shared_105 : decode cX5_shared 105 = .ok (.aload_n 0, 1) := by decide +kernel
theorem dX5_shared_106 : decode cX5_shared 106 = .ok (.iload_n 3, 1) := by decide +kernel
theorem dX5_shared_107 : decode cX5_shared 107 = .ok (.ifCond .eq 10, 3) := by decide +kernel
theorem dX5_shared_110 : decode cX5_shared 110 = .ok (.aload_n 0, 1) := by decide +kernel
theorem dX5_shared_111 : decode cX5_shared 111 = .ok (.getfield 109, 3) := by decide +kernel
theorem dX5_shared_114 : decode cX5_shared 114 = .ok (.goto 7, 3) := by decide +kernel
theorem dX5_shared_117 : decode cX5_shared 117 = .ok (.aload_n 0, 1) := by decide +kernel
theorem dX5_shared_118 : decode cX5_shared 118 = .ok (.getfield 77, 3) := by decide +kernel
theorem dX5_shared_121 : decode cX5_shared 121 = .ok (.putfield 77, 3) := by decide +kernel
theorem dX5_shared_124 : decode cX5_shared 124 = .ok (.aload_n 0, 1) := by decide +kernel
theorem dX5_shared_125 : decode cX5_shared 125 = .ok (.invokevirtual 88, 3) := by decide +kernel
theorem dX5_shared_128 : decode cX5_shared 128 = .ok (.ireturn, 1) := by decide +kernel
theorem dX5_inside_0 : decode cX5_inside 0 = .ok (.iload_n 0, 1) := by decide +kernel
theorem dX5_inside_1 : decode cX5_inside 1 = .ok (.ifCond .ne 19, 3) := by decide +kernel
theorem dX5_inside_4 : decode cX5_inside 4 = .ok (.iload_n 1, 1) := by decide +kernel
theorem dX5_inside_5 : decode cX5_inside 5 = .ok (.ifCond .ne 7, 3) := by decide +kernel
theorem dX5_inside_8 : decode cX5_inside 8 = .ok (.iload_n 2, 1) := by decide +kernel
theorem dX5_inside_9 : decode cX5_inside 9 = .ok (.ifCond .eq 7, 3) := by decide +kernel
theorem dX5_inside_12 : decode cX5_inside 12 = .ok (.iconst 1, 1) := by decide +kernel
theorem dX5_inside_13 : decode cX5_inside 13 = .ok (.goto 59, 3) := by decide +kernel
theorem dX5_inside_16 : decode cX5_inside 16 = .ok (.iconst 0, 1) := by decide +kernel
theorem dX5_inside_17 : decode cX5_inside 17 = .ok (.goto 55, 3) := by decide +kernel
theorem dX5_inside_20 : decode cX5_inside 20 = .ok (.iload_n 0, 1) := by decide +kernel
theorem dX5_inside_21 : decode cX5_inside 21 = .ok (.iconst 1, 1) := by decide +kernel
theorem dX5_inside_22 : decode cX5_inside 22 = .ok (.if_icmp .ne 19, 3) := by decide +kernel
theorem dX5_inside_25 : decode cX5_inside 25 = .ok (.iload_n 1, 1) := by decide +kernel
theorem dX5_inside_26 : decode cX5_inside 26 = .ok (.ifCond .eq 11, 3) := by decide +kernel
theorem dX5_inside_29 : decode cX5_inside 29 = .ok (.iload_n 2, 1) := by decide +kernel
theorem dX5_inside_30 : decode cX5_inside 30 = .ok (.ifCond .eq 7, 3) := by decide +kernel
theorem dX5_inside_33 : decode cX5_inside 33 = .ok (.iconst 1, 1) := by decide +kernel
theorem dX5_inside_34 : decode cX5_inside 34 = .ok (.goto 38, 3) := by decide +kernel
theorem dX5_inside_37 : decode cX5_inside 37 = .ok (.iconst 0, 1) := by decide +kernel
theorem dX5_inside_38 : decode cX5_inside 38 = .ok (.goto 34, 3) := by decide +kernel
theorem dX5_inside_41 : decode cX5_inside 41 = .ok (.iload_n 0, 1) := by decide +kernel
theorem dX5_inside_42 : decode cX5_inside 42 = .ok (.iconst 2, 1) := by decide +kernel
theorem dX5_inside_43 : decode cX5_inside 43 = .ok (.if_icmp .ne 19, 3) := by decide +kernel
theorem dX5_inside_46 : decode cX5_inside 46 = .ok (.iload_n 1, 1) := by decide +kernel
theorem dX5_inside_47 : decode cX5_inside 47 = .ok (.ifCond .eq 11, 3) := by decide +kernel
theorem dX5_inside_50 : decode cX5_inside 50 = .ok (.iload_n 2, 1) := by decide +kernel
theorem dX5_inside_51 : decode cX5_inside 51 = .ok (.ifCond .ne 7, 3) := by decide +kernel
theorem dX5_inside_54 : decode cX5_inside 54 = .ok (.iconst 1, 1) := by decide +kernel
theorem dX5_inside_55 : decode cX5_inside 55 = .ok (.goto 17, 3) := by decide +kernel
theorem dX5_inside_58 : decode cX5_inside 58 = .ok (.iconst 0, 1) := by decide +kernel
theorem dX5_inside_59 : decode cX5_inside 59 = .ok (.goto 13, 3) := by decide +kernel
theorem dX5_inside_62 : decode cX5_inside 62 = .ok (.iload_n 1, 1) := by decide +kernel
theorem dX5_inside_63 : decode cX5_inside 63 = .ok (.iload_n 2, 1) := by decide +kernel
theorem dX5_inside_64 : decode cX5_inside 64 = .ok (.if_icmp .eq 7, 3) := by decide +kernel
theorem dX5_inside_67 : decode cX5_inside 67 = .ok (.iconst 1, 1) := by decide +kernel
theorem dX5_inside_68 : decode cX5_inside 68 = .ok (.goto 4, 3) := by decide +kernel
theorem dX5_inside_71 : decode cX5_inside 71 = .ok (.iconst 0, 1) := by decide +kernel
theorem dX5_inside_72 : decode cX5_inside 72 = .ok (.ireturn, 1) := by decide +kernel
set_option maxRecDepth 20000 in
theorem ggX5_bounding_X5_inside : GoodIn wsX5_bounding wsX5_inside := goodIn_r _ [6] (by decide +kernel) (by decide +kernel)
set_option maxRecDepth 20000 in
theorem gX5_bounding_X5_inside : GoodIn wsX5_bounding (va_wsS RX5 166 yX5_inside wsX5_inside) := goodIn_app (goodIn_of _ (by decide +kernel)) ggX5_bounding_X5_inside
theorem dX5_bounding_0 : decode cX5_bounding 0 = .ok (.iload_n 1, 1) := by decide +kernel
theorem dX5_bounding_1 : decode cX5_bounding 1 = .ok (.aload_n 0, 1) := by decide +kernel
theorem dX5_bounding_2 : decode cX5_bounding 2 = .ok (.getfield 52, 3) := by decide +kernel
theorem dX5_bounding_5 : decode cX5_bounding 5 = .ok (.iconst 2, 1) := by decide +kernel
theorem dX5_bounding_6 : decode cX5_bounding 6 = .ok (.iload_n 2, 1) := by decide +kernel
theorem dX5_bounding_7 : decode cX5_bounding 7 = .ok (.imul, 1) := by decide +kernel
theorem dX5_bounding_8 : decode cX5_bounding 8 = .ok (.baload, 1) := by decide +kernel
theorem dX5_bounding_9 : decode cX5_bounding 9 = .ok (.aload_n 0, 1) := by decide +kernel
theorem dX5_bounding_10 : decode cX5_bounding 10 = .ok (.getfield 52, 3) := by decide +kernel
theorem dX5_bounding_13 : decode cX5_bounding 13 = .ok (.iconst 2, 1) := by decide +kernel
theorem dX5_bounding_14 : decode cX5_bounding 14 = .ok (.iload_n 2, 1) := by decide +kernel
theorem dX5_bounding_15 : decode cX5_bounding 15 = .ok (.imul, 1) := by decide +kernel
theorem dX5_bounding_16 : decode cX5_bounding 16 = .ok (.iconst 1, 1) := by decide +kernel
theorem dX5_bounding_17 : decode cX5_bounding 17 = .ok (.iadd, 1) := by decide +kernel
theorem dX5_bounding_18 : decode cX5_bounding 18 = .ok (.baload, 1) := by decide +kernel
theorem dX5_bounding_19 : decode cX5_bounding 19 = .ok (.invokestatic 166, 3) := by decide +kernel
theorem dX5_bounding_22 : decode cX5_bounding 22 = .ok (.istore_n 3, 1) := by decide +kernel
theorem dX5_bounding_23 : decode cX5_bounding 23 = .ok (.iload_n 1, 1) := by decide +kernel
theorem dX5_bounding_24 : decode cX5_bounding 24 = .ok (.aload_n 0, 1) := by decide +kernel
theorem dX5_bounding_25 : decode cX5_bounding 25 = .ok (.getfield 56, 3) := by decide +kernel
theorem dX5_bounding_28 : decode cX5_bounding 28 = .ok (.iconst 2, 1) := by decide +kernel
theorem dX5_bounding_29 : decode cX5_bounding 29 = .ok (.iload_n 2, 1) := by decide +kernel
theorem dX5_bounding_30 : decode cX5_bounding 30 = .ok (.imul, 1) := by decide +kernel
theorem dX5_bounding_31 : decode cX5_bounding 31 = .ok (.baload, 1) := by decide +kernel
theorem dX5_bounding_32 : decode cX5_bounding 32 = .ok (.aload_n 0, 1) := by decide +kernel
theorem dX5_bounding_33 : decode cX5_bounding 33 = .ok (.getfield 56, 3) := by decide +kernel
theorem dX5_bounding_36 : decode cX5_bounding 36 = .ok (.iconst 2, 1) := by decide +kernel
theorem dX5_bounding_37 : decode cX5_bounding 37 = .ok (.iload_n 2, 1) := by decide +kernel
theorem dX5_bounding_38 : decode cX5_bounding 38 = .ok (.imul, 1) := by decide +kernel
theorem dX5_bounding_39 : decode cX5_bounding 39 = .ok (.iconst 1, 1) := by decide +kernel
theorem dX5_bounding_40 : decode cX5_bounding 40 = .ok (.iadd, 1) := by decide +kernel
theorem dX5_bounding_41 : decode cX5_bounding 41 = .ok (.baload, 1) := by decide +kernel
theorem dX5_bounding_42 : decode cX5_bounding 42 = .ok (.invokestatic 166, 3) := by decide +kernel
theorem dX5_bounding_45 : decode cX5_bounding 45 = .ok (.istore 4, 2) := by decide +kernel
theorem dX5_bounding_47 : decode cX5_bounding 47 = .ok (.iload_n 3, 1) := by decide +kernel
theorem dX5_bounding_48 : decode cX5_bounding 48 = .ok (.iload 4, 2) := by decide +kernel
theorem dX5_bounding_50 : decode cX5_bounding 50 = .ok (.if_icmp .ne 7, 3) := by decide +kernel
theorem dX5_bounding_53 : decode cX5_bounding 53 = .ok (.iconst 0, 1) := by decide +kernel
theorem dX5_bounding_54 : decode cX5_bounding 54 = .ok (.goto 12, 3) := by decide +kernel
theorem dX5_bounding_57 : decode cX5_bounding 57 = .ok (.iload_n 3, 1) := by decide +kernel
theorem dX5_bounding_58 : decode cX5_bounding 58 = .ok (.ifCond .eq 7, 3) := by decide +kernel
theorem dX5_bounding_61 : decode cX5_bounding 61 = .ok (.iconst 1, 1) := by decide +kernel
theorem dX5_bounding_62 : decode cX5_bounding 62 = .ok (.goto 4, 3) := by decide +kernel
theorem dX5_bounding_65 : decode cX5_bounding 65 = .ok (.iconst (-1), 1) := by decide +kernel
theorem dX5_bounding_66 : decode cX5_bounding 66 = .ok (.ireturn, 1) := by decide +kernel
theorem dX5_lacks_0 : decode cX5_lacks 0 = .ok (.aload_n 0, 1) := by decide +kernel
theorem dX5_lacks_1 : decode cX5_lacks 1 = .ok (.aload_n 0, 1) := by decide +kernel
theorem dX5_lacks_2 : decode cX5_lacks 2 = .ok (.getfield 132, 3) := by decide +kernel
theorem dX5_lacks_5 : decode cX5_lacks 5 = .ok (.ifCond .ne 7, 3) := by decide +kernel
theorem dX5_lacks_8 : decode cX5_lacks 8 = .ok (.iconst 1, 1) := by decide +kernel
theorem dX5_lacks_9 : decode cX5_lacks 9 = .ok (.goto 17, 3) := by decide +kernel
theorem dX5_lacks_12 : decode cX5_lacks 12 = .ok (.iload_n 1, 1) := by decide +kernel
theorem dX5_lacks_13 : decode cX5_lacks 13 = .ok (.ifCond .lt 8, 3) := by decide +kernel
theorem dX5_lacks_16 : decode cX5_lacks 16 = .ok (.iload_n 1, 1) := by decide +kernel
theorem dX5_lacks_17 : decode cX5_lacks 17 = .ok (.iconst 3, 1) := by decide +kernel
theorem dX5_lacks_18 : decode cX5_lacks 18 = .ok (.if_icmp .le 7, 3) := by decide +kernel
theorem dX5_lacks_21 : decode cX5_lacks 21 = .ok (.iconst 2, 1) := by decide +kernel
theorem dX5_lacks_22 : decode cX5_lacks 22 = .ok (.goto 4, 3) := by decide +kernel
theorem dX5_lacks_25 : decode cX5_lacks 25 = .ok (.iconst 0, 1) := by decide +kernel
theorem dX5_lacks_26 : decode cX5_lacks 26 = .ok (.putfield 59, 3) := by decide +kernel
theorem dX5_lacks_29 : decode cX5_lacks 29 = .ok (.aload_n 0, 1) := by decide +kernel
theorem dX5_lacks_30 : decode cX5_lacks 30 = .ok (.getfield 59, 3) := by decide +kernel
theorem dX5_lacks_33 : decode cX5_lacks 33 = .ok (.ifCond .le 7, 3) := by decide +kernel
theorem dX5_lacks_36 : decode cX5_lacks 36 = .ok (.iconst 1, 1) := by decide +kernel
theorem dX5_lacks_37 : decode cX5_lacks 37 = .ok (.goto 4, 3) := by decide +kernel
theorem dX5_lacks_40 : decode cX5_lacks 40 = .ok (.iconst 0, 1) := by decide +kernel
theorem dX5_lacks_41 : decode cX5_lacks 41 = .ok (.ireturn, 1) := by decide +kernel
set_option maxRecDepth 20000 in
theorem ggX5_bounds_X5_lacks : GoodIn wsX5_bounds wsX5_lacks := goodIn_r _ [6, 7, 8, 18, 19, 20, 21, 22, 23, 24, 25, 26, 27, 28, 29, 30, 31, 32, 33, 34, 35, 36, 37, 38, 39, 40, 41, 42, 43, 44] (by decide +kernel) (by decide +kernel)
set_option maxRecDepth 20000 in
theorem gX5_bounds_X5_lacks : GoodIn wsX5_bounds (wsV RX5 170 RX5 yX5_lacks wsX5_lacks) := goodIn_app (goodIn_of _ (by decide +kernel)) ggX5_bounds_X5_lacks
set_option maxRecDepth 20000 in
theorem ggX5_bounds_X5_bounding : GoodIn wsX5_bounds wsX5_bounding := goodIn_r _ [12, 13, 14, 15, 16, 5, 17, 18, 19, 20, 21, 22, 23, 24, 25, 26, 27, 28, 29, 30, 31, 32, 33, 34, 35, 36, 37, 38, 39, 40, 41, 42, 43, 44] (by decide +kernel) (by decide +kernel)
set_option maxRecDepth 20000 in
theorem gX5_bounds_X5_bounding : GoodIn wsX5_bounds (wsV RX5 173 RX5 yX5_bounding wsX5_bounding) := goodIn_app (goodIn_of _ (by decide +kernel)) ggX5_bounds_X5_bounding
theorem dX5_bounds_0 : decode cX5_bounds 0 = .ok (.aload_n 0, 1) := by decide +kernel
theorem dX5_bounds_1 : decode cX5_bounds 1 = .ok (.iload_n 1, 1) := by decide +kernel
theorem dX5_bounds_2 : decode cX5_bounds 2 = .ok (.invokevirtual 170, 3) := by decide +kernel
theorem dX5_bounds_5 : decode cX5_bounds 5 = .ok (.ifCond .eq 5, 3) := by decide +kernel
theorem dX5_bounds_8 : decode cX5_bounds 8 = .ok (.iconst 0, 1) := by decide +kernel
theorem dX5_bounds_9 : decode cX5_bounds 9 = .ok (.ireturn, 1) := by decide +kernel
theorem dX5_bounds_10 : decode cX5_bounds 10 = .ok (.iconst 0, 1) := by decide +kernel
theorem dX5_bounds_11 : decode cX5_bounds 11 = .ok (.istore_n 2, 1) := by decide +kernel
theorem dX5_bounds_12 : decode cX5_bounds 12 = .ok (.iconst 0, 1) := by decide +kernel
theorem dX5_bounds_13 : decode cX5_bounds 13 = .ok (.istore_n 3, 1) := by decide +kernel
theorem dX5_bounds_14 : decode cX5_bounds 14 = .ok (.iload_n 3, 1) := by decide +kernel
theorem dX5_bounds_15 : decode cX5_bounds 15 = .ok (.aload_n 0, 1) := by decide +kernel
theorem dX5_bounds_16 : decode cX5_bounds 16 = .ok (.getfield 116, 3) := by decide +kernel
theorem dX5_bounds_19 : decode cX5_bounds 19 = .ok (.if_icmp .ge 26, 3) := by decide +kernel
theorem dX5_bounds_22 : decode cX5_bounds 22 = .ok (.iload_n 2, 1) := by decide +kernel
theorem dX5_bounds_23 : decode cX5_bounds 23 = .ok (.aload_n 0, 1) := by decide +kernel
theorem dX5_bounds_24 : decode cX5_bounds 24 = .ok (.iload_n 1, 1) := by decide +kernel
theorem dX5_bounds_25 : decode cX5_bounds 25 = .ok (.iload_n 3, 1) := by decide +kernel
theorem dX5_bounds_26 : decode cX5_bounds 26 = .ok (.invokevirtual 173, 3) := by decide +kernel
theorem dX5_bounds_29 : decode cX5_bounds 29 = .ok (.ifCond .eq 7, 3) := by decide +kernel
theorem dX5_bounds_32 : decode cX5_bounds 32 = .ok (.iconst 1, 1) := by decide +kernel
theorem dX5_bounds_33 : decode cX5_bounds 33 = .ok (.goto 4, 3) := by decide +kernel
theorem dX5_bounds_36 : decode cX5_bounds 36 = .ok (.iconst 0, 1) := by decide +kernel
theorem dX5_bounds_37 : decode cX5_bounds 37 = .ok (.iadd, 1) := by decide +kernel
theorem dX5_bounds_38 : decode cX5_bounds 38 = .ok (.istore_n 2, 1) := by decide +kernel
theorem dX5_bounds_39 : decode cX5_bounds 39 = .ok (.iinc 3 1, 3) := by decide +kernel
theorem dX5_bounds_42 : decode cX5_bounds 42 = .ok (.goto (-28), 3) := by decide +kernel
theorem dX5_bounds_45 : decode cX5_bounds 45 = .ok (.iload_n 2, 1) := by decide +kernel
theorem dX5_bounds_46 : decode cX5_bounds 46 = .ok (.ireturn, 1) := by decide +kernel
set_option maxRecDepth 20000 in
theorem ggX5_bound_X5_lacks : GoodIn wsX5_bound wsX5_lacks := goodIn_r _ [7, 8, 2, 18, 19, 20, 21, 22, 23, 24, 25, 26, 27, 28, 29, 30, 31, 32, 33, 34, 35, 36, 37, 38, 39, 40, 41, 42, 43, 44] (by decide +kernel) (by decide +kernel)
set_option maxRecDepth 20000 in
theorem gX5_bound_X5_lacks : GoodIn wsX5_bound (wsV RX5 170 RX5 yX5_lacks wsX5_lacks) := goodIn_app (goodIn_of _ (by decide +kernel)) ggX5_bound_X5_lacks
set_option maxRecDepth 20000 in
theorem ggX5_bound_X5_bounding : GoodIn wsX5_bound wsX5_bounding := goodIn_r _ [12, 13, 14, 15, 16, 6, 17, 18, 19, 20, 21, 22, 23, 24, 25, 26, 27, 28, 29, 30, 31, 32, 33, 34, 35, 36, 37, 38, 39, 40, 41, 42, 43, 44] (by decide +kernel) (by decide +kernel)
set_option maxRecDepth 20000 in
theorem gX5_bound_X5_bounding : GoodIn wsX5_bound (wsV RX5 173 RX5 yX5_bounding wsX5_bounding) := goodIn_app (goodIn_of _ (by decide +kernel)) ggX5_bound_X5_bounding
theorem dX5_bound_0 : decode cX5_bound 0 = .ok (.aload_n 0, 1) := by decide +kernel
theorem dX5_bound_1 : decode cX5_bound 1 = .ok (.iload_n 1, 1) := by decide +kernel
theorem dX5_bound_2 : decode cX5_bound 2 = .ok (.invokevirtual 170, 3) := by decide +kernel
theorem dX5_bound_5 : decode cX5_bound 5 = .ok (.ifCond .eq 5, 3) := by decide +kernel
theorem dX5_bound_8 : decode cX5_bound 8 = .ok (.iconst 0, 1) := by decide +kernel
theorem dX5_bound_9 : decode cX5_bound 9 = .ok (.ireturn, 1) := by decide +kernel
theorem dX5_bound_10 : decode cX5_bound 10 = .ok (.iload_n 2, 1) := by decide +kernel
theorem dX5_bound_11 : decode cX5_bound 11 = .ok (.istore_n 3, 1) := by decide +kernel
theorem dX5_bound_12 : decode cX5_bound 12 = .ok (.iconst 0, 1) := by decide +kernel
theorem dX5_bound_13 : decode cX5_bound 13 = .ok (.istore 4, 2) := by decide +kernel
theorem dX5_bound_15 : decode cX5_bound 15 = .ok (.iload 4, 2) := by decide +kernel
theorem dX5_bound_17 : decode cX5_bound 17 = .ok (.aload_n 0, 1) := by decide +kernel
theorem dX5_bound_18 : decode cX5_bound 18 = .ok (.getfield 116, 3) := by decide +kernel
theorem dX5_bound_21 : decode cX5_bound 21 = .ok (.if_icmp .ge 33, 3) := by decide +kernel
theorem dX5_bound_24 : decode cX5_bound 24 = .ok (.iload_n 2, 1) := by decide +kernel
theorem dX5_bound_25 : decode cX5_bound 25 = .ok (.ifCond .lt 29, 3) := by decide +kernel
theorem dX5_bound_28 : decode cX5_bound 28 = .ok (.aload_n 0, 1) := by decide +kernel
theorem dX5_bound_29 : decode cX5_bound 29 = .ok (.iload_n 1, 1) := by decide +kernel
theorem dX5_bound_30 : decode cX5_bound 30 = .ok (.iload 4, 2) := by decide +kernel
theorem dX5_bound_32 : decode cX5_bound 32 = .ok (.invokevirtual 173, 3) := by decide +kernel
theorem dX5_bound_35 : decode cX5_bound 35 = .ok (.ifCond .eq 13, 3) := by decide +kernel
theorem dX5_bound_38 : decode cX5_bound 38 = .ok (.iload_n 3, 1) := by decide +kernel
theorem dX5_bound_39 : decode cX5_bound 39 = .ok (.ifCond .ne 6, 3) := by decide +kernel
theorem dX5_bound_42 : decode cX5_bound 42 = .ok (.iload 4, 2) := by decide +kernel
theorem dX5_bound_44 : decode cX5_bound 44 = .ok (.ireturn, 1) := by decide +kernel
theorem dX5_bound_45 : decode cX5_bound 45 = .ok (.iinc 3 (-1), 3) := by decide +kernel
theorem dX5_bound_48 : decode cX5_bound 48 = .ok (.iinc 4 1, 3) := by decide +kernel
theorem dX5_bound_51 : decode cX5_bound 51 = .ok (.goto (-36), 3) := by decide +kernel
theorem dX5_bound_54 : decode cX5_bound 54 = .ok (.aload_n 0, 1) := by decide +kernel
theorem dX5_bound_55 : decode cX5_bound 55 = .ok (.iconst 3, 1) := by decide +kernel
theorem dX5_bound_56 : decode cX5_bound 56 = .ok (.putfield 59, 3) := by decide +kernel
theorem dX5_bound_59 : decode cX5_bound 59 = .ok (.iconst 0, 1) := by decide +kernel
theorem dX5_bound_60 : decode cX5_bound 60 = .ok (.ireturn, 1) := by decide +kernel
set_option maxRecDepth 20000 in
theorem ggX5_where_X5_isPolygon : GoodIn wsX5_where wsX5_isPolygon := goodIn_r _ [10] (by decide +kernel) (by decide +kernel)
set_option maxRecDepth 20000 in
theorem gX5_where_X5_isPolygon : GoodIn wsX5_where (va_wsS RX5 63 yX5_isPolygon wsX5_isPolygon) := goodIn_app (goodIn_of _ (by decide +kernel)) ggX5_where_X5_isPolygon
set_option maxRecDepth 20000 in
theorem ggX5_where_X5_onEdge : GoodIn wsX5_where wsX5_onEdge := goodIn_r _ [14, 15, 16, 17, 18, 19, 20, 21, 9, 22, 23, 24, 25, 30, 31, 32, 33, 34, 35, 36, 37, 38, 39, 40, 41, 42, 43, 44, 45, 46, 47, 48, 49, 50, 51, 52, 53, 54, 55, 56] (by decide +kernel) (by decide +kernel)
set_option maxRecDepth 20000 in
theorem gX5_where_X5_onEdge : GoodIn wsX5_where (wsV RX5 112 RX5 yX5_onEdge wsX5_onEdge) := goodIn_app (goodIn_of _ (by decide +kernel)) ggX5_where_X5_onEdge
set_option maxRecDepth 20000 in
theorem ggX5_where_X5_above : GoodIn wsX5_where wsX5_above := goodIn_r _ [29, 5, 6, 15, 17, 19, 20, 21, 9, 22, 16, 18, 30, 31, 32, 33, 34, 35, 36, 37, 38, 39, 40, 41, 42, 43, 44, 45, 46, 47, 48, 49, 50, 51, 52, 53, 54, 55, 56] (by decide +kernel) (by decide +kernel)
set_option maxRecDepth 20000 in
theorem gX5_where_X5_above : GoodIn wsX5_where (wsV RX5 129 RX5 yX5_above wsX5_above) := goodIn_app (goodIn_of _ (by decide +kernel)) ggX5_where_X5_above
theorem dX5_where_0 : decode cX5_where 0 = .ok (.iload_n 1, 1) := by decide +kernel
theorem dX5_where_1 : decode cX5_where 1 = .ok (.invokestatic 63, 3) := by decide +kernel
theorem dX5_where_4 : decode cX5_where 4 = .ok (.ifCond .eq 45, 3) := by decide +kernel
theorem dX5_where_7 : decode cX5_where 7 = .ok (.iload_n 2, 1) := by decide +kernel
theorem dX5_where_8 : decode cX5_where 8 = .ok (.ldc 176, 2) := by decide +kernel
theorem dX5_where_10 : decode cX5_where 10 = .ok (.if_icmp .lt 39, 3) := by decide +kernel
theorem dX5_where_13 : decode cX5_where 13 = .ok (.iload_n 2, 1) := by decide +kernel
theorem dX5_where_14 : decode cX5_where 14 = .ok (.ldc 177, 2) := by decide +kernel
theorem dX5_where_16 : decode cX5_where 16 = .ok (.if_icmp .gt 33, 3) := by decide +kernel
theorem dX5_where_19 : decode cX5_where 19 = .ok (.iload_n 3, 1) := by decide +kernel
theorem dX5_where_20 : decode cX5_where 20 = .ok (.ldc 176, 2) := by decide +kernel
theorem dX5_where_22 : decode cX5_where 22 = .ok (.if_icmp .lt 27, 3) := by decide +kernel
theorem dX5_where_25 : decode cX5_where 25 = .ok (.iload_n 3, 1) := by decide +kernel
theorem dX5_where_26 : decode cX5_where 26 = .ok (.ldc 177, 2) := by decide +kernel
theorem dX5_where_28 : decode cX5_where 28 = .ok (.if_icmp .gt 21, 3) := by decide +kernel
theorem dX5_where_31 : decode cX5_where 31 = .ok (.iload 4, 2) := by decide +kernel
theorem dX5_where_33 : decode cX5_where 33 = .ok (.iconst 1, 1) := by decide +kernel
theorem dX5_where_34 : decode cX5_where 34 = .ok (.if_icmp .lt 15, 3) := by decide +kernel
theorem dX5_where_37 : decode cX5_where 37 = .ok (.iload 4, 2) := by decide +kernel
theorem dX5_where_39 : decode cX5_where 39 = .ok (.sipush 1000, 3) := by decide +kernel
theorem dX5_where_42 : decode cX5_where 42 = .ok (.if_icmp .gt 7, 3) := by decide +kernel
theorem dX5_where_45 : decode cX5_where 45 = .ok (.iconst 1, 1) := by decide +kernel
theorem dX5_where_46 : decode cX5_where 46 = .ok (.goto 4, 3) := by decide +kernel
theorem dX5_where_49 : decode cX5_where 49 = .ok (.iconst 0, 1) := by decide +kernel
theorem dX5_where_50 : decode cX5_where 50 = .ok (.istore 5, 2) := by decide +kernel
theorem dX5_where_52 : decode cX5_where 52 = .ok (.aload_n 0, 1) := by decide +kernel
theorem dX5_where_53 : decode cX5_where 53 = .ok (.aload_n 0, 1) := by decide +kernel
theorem dX5_where_54 : decode cX5_where 54 = .ok (.getfield 132, 3) := by decide +kernel
theorem dX5_where_57 : decode cX5_where 57 = .ok (.ifCond .ne 7, 3) := by decide +kernel
theorem dX5_where_60 : decode cX5_where 60 = .ok (.iconst 1, 1) := by decide +kernel
theorem dX5_where_61 : decode cX5_where 61 = .ok (.goto 13, 3) := by decide +kernel
theorem dX5_where_64 : decode cX5_where 64 = .ok (.iload 5, 2) := by decide +kernel
theorem dX5_where_66 : decode cX5_where 66 = .ok (.ifCond .ne 7, 3) := by decide +kernel
theorem dX5_where_69 : decode cX5_where 69 = .ok (.iconst 2, 1) := by decide +kernel
theorem dX5_where_70 : decode cX5_where 70 = .ok (.goto 4, 3) := by decide +kernel
theorem dX5_where_73 : decode cX5_where 73 = .ok (.iconst 0, 1) := by decide +kernel
theorem dX5_where_74 : decode cX5_where 74 = .ok (.putfield 59, 3) := by decide +kernel
theorem dX5_where_77 : decode cX5_where 77 = .ok (.aload_n 0, 1) := by decide +kernel
theorem dX5_where_78 : decode cX5_where 78 = .ok (.getfield 59, 3) := by decide +kernel
theorem dX5_where_81 : decode cX5_where 81 = .ok (.ifCond .le 5, 3) := by decide +kernel
theorem dX5_where_84 : decode cX5_where 84 = .ok (.iconst 0, 1) := by decide +kernel
theorem dX5_where_85 : decode cX5_where 85 = .ok (.ireturn, 1) := by decide +kernel
theorem dX5_where_86 : decode cX5_where 86 = .ok (.iconst 0, 1) := by decide +kernel
theorem dX5_where_87 : decode cX5_where 87 = .ok (.istore 6, 2) := by decide +kernel
theorem dX5_where_89 : decode cX5_where 89 = .ok (.iload 6, 2) := by decide +kernel
theorem dX5_where_91 : decode cX5_where 91 = .ok (.aload_n 0, 1) := by decide +kernel
theorem dX5_where_92 : decode cX5_where 92 = .ok (.getfield 92, 3) := by decide +kernel
theorem dX5_where_95 : decode cX5_where 95 = .ok (.if_icmp .ge 38, 3) := by decide +kernel
theorem dX5_where_98 : decode cX5_where 98 = .ok (.aload_n 0, 1) := by decide +kernel
theorem dX5_where_99 : decode cX5_where 99 = .ok (.getfield 31, 3) := by decide +kernel
theorem dX5_where_102 : decode cX5_where 102 = .ok (.iload 6, 2) := by decide +kernel
theorem dX5_where_104 : decode cX5_where 104 = .ok (.iaload, 1) := by decide +kernel
theorem dX5_where_105 : decode cX5_where 105 = .ok (.iload_n 1, 1) := by decide +kernel
theorem dX5_where_106 : decode cX5_where 106 = .ok (.if_icmp .ne 21, 3) := by decide +kernel
theorem dX5_where_109 : decode cX5_where 109 = .ok (.aload_n 0, 1) := by decide +kernel
theorem dX5_where_110 : decode cX5_where 110 = .ok (.iload 6, 2) := by decide +kernel
theorem dX5_where_112 : decode cX5_where 112 = .ok (.iload_n 2, 1) := by decide +kernel
theorem dX5_where_113 : decode cX5_where 113 = .ok (.i2l, 1) := by decide +kernel
theorem dX5_where_114 : decode cX5_where 114 = .ok (.iload_n 3, 1) := by decide +kernel
theorem dX5_where_115 : decode cX5_where 115 = .ok (.i2l, 1) := by decide +kernel
theorem dX5_where_116 : decode cX5_where 116 = .ok (.iload 4, 2) := by decide +kernel
theorem dX5_where_118 : decode cX5_where 118 = .ok (.i2l, 1) := by decide +kernel
theorem dX5_where_119 : decode cX5_where 119 = .ok (.invokevirtual 112, 3) := by decide +kernel
theorem dX5_where_122 : decode cX5_where 122 = .ok (.ifCond .eq 5, 3) := by decide +kernel
theorem dX5_where_125 : decode cX5_where 125 = .ok (.iconst 2, 1) := by decide +kernel
theorem dX5_where_126 : decode cX5_where 126 = .ok (.ireturn, 1) := by decide +kernel
theorem dX5_where_127 : decode cX5_where 127 = .ok (.iinc 6 1, 3) := by decide +kernel
theorem dX5_where_130 : decode cX5_where 130 = .ok (.goto (-41), 3) := by decide +kernel
theorem dX5_where_133 : decode cX5_where 133 = .ok (.aload_n 0, 1) := by decide +kernel
theorem dX5_where_134 : decode cX5_where 134 = .ok (.iload_n 1, 1) := by decide +kernel
theorem dX5_where_135 : decode cX5_where 135 = .ok (.iload_n 2, 1) := by decide +kernel
theorem dX5_where_136 : decode cX5_where 136 = .ok (.i2l, 1) := by decide +kernel
theorem dX5_where_137 : decode cX5_where 137 = .ok (.iload_n 3, 1) := by decide +kernel
theorem dX5_where_138 : decode cX5_where 138 = .ok (.i2l, 1) := by decide +kernel
theorem dX5_where_139 : decode cX5_where 139 = .ok (.iload 4, 2) := by decide +kernel
theorem dX5_where_141 : decode cX5_where 141 = .ok (.i2l, 1) := by decide +kernel
theorem dX5_where_142 : decode cX5_where 142 = .ok (.invokevirtual 129, 3) := by decide +kernel
theorem dX5_where_145 : decode cX5_where 145 = .ok (.iconst 2, 1) := by decide +kernel
theorem dX5_where_146 : decode cX5_where 146 = .ok (.irem, 1) := by decide +kernel
theorem dX5_where_147 : decode cX5_where 147 = .ok (.ireturn, 1) := by decide +kernel
set_option maxRecDepth 20000 in
theorem ggX5_area_X5_lacks : GoodIn wsX5_area wsX5_lacks := goodIn_r _ [11, 12, 13, 23, 24, 25, 26, 27, 28, 29, 30, 31, 32, 33, 34, 35, 36, 37, 38, 39, 40, 41, 42, 43, 44, 45, 46, 47, 48, 49] (by decide +kernel) (by decide +kernel)
set_option maxRecDepth 20000 in
theorem gX5_area_X5_lacks : GoodIn wsX5_area (wsV RX5 170 RX5 yX5_lacks wsX5_lacks) := goodIn_app (goodIn_of _ (by decide +kernel)) ggX5_area_X5_lacks
set_option maxRecDepth 20000 in
theorem ggX5_area_X5_bounding : GoodIn wsX5_area wsX5_bounding := goodIn_r _ [17, 18, 19, 20, 21, 10, 22, 23, 24, 25, 26, 27, 28, 29, 30, 31, 32, 33, 34, 35, 36, 37, 38, 39, 40, 41, 42, 43, 44, 45, 46, 47, 48, 49] (by decide +kernel) (by decide +kernel)
set_option maxRecDepth 20000 in
theorem gX5_area_X5_bounding : GoodIn wsX5_area (wsV RX5 173 RX5 yX5_bounding wsX5_bounding) := goodIn_app (goodIn_of _ (by decide +kernel)) ggX5_area_X5_bounding
theorem dX5_area_0 : decode cX5_area 0 = .ok (.aload_n 0, 1) := by decide +kernel
theorem dX5_area_1 : decode cX5_area 1 = .ok (.iload_n 1, 1) := by decide +kernel
theorem dX5_area_2 : decode cX5_area 2 = .ok (.invokevirtual 170, 3) := by decide +kernel
theorem dX5_area_5 : decode cX5_area 5 = .ok (.ifCond .eq 5, 3) := by decide +kernel
theorem dX5_area_8 : decode cX5_area 8 = .ok (.dconst 0, 1) := by decide +kernel
theorem dX5_area_9 : decode cX5_area 9 = .ok (.dreturn, 1) := by decide +kernel
theorem dX5_area_10 : decode cX5_area 10 = .ok (.dconst 0, 1) := by decide +kernel
theorem dX5_area_11 : decode cX5_area 11 = .ok (.dstore_n 2, 1) := by decide +kernel
theorem dX5_area_12 : decode cX5_area 12 = .ok (.iconst 0, 1) := by decide +kernel
theorem dX5_area_13 : decode cX5_area 13 = .ok (.istore 4, 2) := by decide +kernel
theorem dX5_area_15 : decode cX5_area 15 = .ok (.iload 4, 2) := by decide +kernel
theorem dX5_area_17 : decode cX5_area 17 = .ok (.aload_n 0, 1) := by decide +kernel
theorem dX5_area_18 : decode cX5_area 18 = .ok (.getfield 116, 3) := by decide +kernel
theorem dX5_area_21 : decode cX5_area 21 = .ok (.if_icmp .ge 115, 3) := by decide +kernel
theorem dX5_area_24 : decode cX5_area 24 = .ok (.aload_n 0, 1) := by decide +kernel
theorem dX5_area_25 : decode cX5_area 25 = .ok (.iload_n 1, 1) := by decide +kernel
theorem dX5_area_26 : decode cX5_area 26 = .ok (.iload 4, 2) := by decide +kernel
theorem dX5_area_28 : decode cX5_area 28 = .ok (.invokevirtual 173, 3) := by decide +kernel
theorem dX5_area_31 : decode cX5_area 31 = .ok (.istore 5, 2) := by decide +kernel
theorem dX5_area_33 : decode cX5_area 33 = .ok (.iload 5, 2) := by decide +kernel
theorem dX5_area_35 : decode cX5_area 35 = .ok (.ifCond .eq 95, 3) := by decide +kernel
theorem dX5_area_38 : decode cX5_area 38 = .ok (.aload_n 0, 1) := by decide +kernel
theorem dX5_area_39 : decode cX5_area 39 = .ok (.getfield 43, 3) := by decide +kernel
theorem dX5_area_42 : decode cX5_area 42 = .ok (.iload 4, 2) := by decide +kernel
theorem dX5_area_44 : decode cX5_area 44 = .ok (.iaload, 1) := by decide +kernel
theorem dX5_area_45 : decode cX5_area 45 = .ok (.istore 6, 2) := by decide +kernel
theorem dX5_area_47 : decode cX5_area 47 = .ok (.aload_n 0, 1) := by decide +kernel
theorem dX5_area_48 : decode cX5_area 48 = .ok (.getfield 46, 3) := by decide +kernel
theorem dX5_area_51 : decode cX5_area 51 = .ok (.iload 4, 2) := by decide +kernel
theorem dX5_area_53 : decode cX5_area 53 = .ok (.iaload, 1) := by decide +kernel
theorem dX5_area_54 : decode cX5_area 54 = .ok (.istore 7, 2) := by decide +kernel
theorem dX5_area_56 : decode cX5_area 56 = .ok (.aload_n 0, 1) := by decide +kernel
theorem dX5_area_57 : decode cX5_area 57 = .ok (.getfield 34, 3) := by decide +kernel
theorem dX5_area_60 : decode cX5_area 60 = .ok (.iload 6, 2) := by decide +kernel
theorem dX5_area_62 : decode cX5_area 62 = .ok (.iaload, 1) := by decide +kernel
theorem dX5_area_63 : decode cX5_area 63 = .ok (.i2l, 1) := by decide +kernel
theorem dX5_area_64 : decode cX5_area 64 = .ok (.aload_n 0, 1) := by decide +kernel
theorem dX5_area_65 : decode cX5_area 65 = .ok (.getfield 37, 3) := by decide +kernel
theorem dX5_area_68 : decode cX5_area 68 = .ok (.iload 7, 2) := by decide +kernel
theorem dX5_area_70 : decode cX5_area 70 = .ok (.iaload, 1) := by decide +kernel
theorem dX5_area_71 : decode cX5_area 71 = .ok (.i2l, 1) := by decide +kernel
theorem dX5_area_72 : decode cX5_area 72 = .ok (.lmul, 1) := by decide +kernel
theorem dX5_area_73 : decode cX5_area 73 = .ok (.aload_n 0, 1) := by decide +kernel
theorem dX5_area_74 : decode cX5_area 74 = .ok (.getfield 34, 3) := by decide +kernel
theorem dX5_area_77 : decode cX5_area 77 = .ok (.iload 7, 2) := by decide +kernel
theorem dX5_area_79 : decode cX5_area 79 = .ok (.iaload, 1) := by decide +kernel
theorem dX5_area_80 : decode cX5_area 80 = .ok (.i2l, 1) := by decide +kernel
theorem dX5_area_81 : decode cX5_area 81 = .ok (.aload_n 0, 1) := by decide +kernel
theorem dX5_area_82 : decode cX5_area 82 = .ok (.getfield 37, 3) := by decide +kernel
theorem dX5_area_85 : decode cX5_area 85 = .ok (.iload 6, 2) := by decide +kernel
theorem dX5_area_87 : decode cX5_area 87 = .ok (.iaload, 1) := by decide +kernel
theorem dX5_area_88 : decode cX5_area 88 = .ok (.i2l, 1) := by decide +kernel
theorem dX5_area_89 : decode cX5_area 89 = .ok (.lmul, 1) := by decide +kernel
theorem dX5_area_90 : decode cX5_area 90 = .ok (.lsub, 1) := by decide +kernel
theorem dX5_area_91 : decode cX5_area 91 = .ok (.l2d, 1) := by decide +kernel
theorem dX5_area_92 : decode cX5_area 92 = .ok (.dstore 8, 2) := by decide +kernel
theorem dX5_area_94 : decode cX5_area 94 = .ok (.aload_n 0, 1) := by decide +kernel
theorem dX5_area_95 : decode cX5_area 95 = .ok (.getfield 40, 3) := by decide +kernel
theorem dX5_area_98 : decode cX5_area 98 = .ok (.iload 6, 2) := by decide +kernel
theorem dX5_area_100 : decode cX5_area 100 = .ok (.iaload, 1) := by decide +kernel
theorem dX5_area_101 : decode cX5_area 101 = .ok (.i2l, 1) := by decide +kernel
theorem dX5_area_102 : decode cX5_area 102 = .ok (.aload_n 0, 1) := by decide +kernel
theorem dX5_area_103 : decode cX5_area 103 = .ok (.getfield 40, 3) := by decide +kernel
theorem dX5_area_106 : decode cX5_area 106 = .ok (.iload 7, 2) := by decide +kernel
theorem dX5_area_108 : decode cX5_area 108 = .ok (.iaload, 1) := by decide +kernel
theorem dX5_area_109 : decode cX5_area 109 = .ok (.i2l, 1) := by decide +kernel
theorem dX5_area_110 : decode cX5_area 110 = .ok (.lmul, 1) := by decide +kernel
theorem dX5_area_111 : decode cX5_area 111 = .ok (.l2d, 1) := by decide +kernel
theorem dX5_area_112 : decode cX5_area 112 = .ok (.dstore 10, 2) := by decide +kernel
theorem dX5_area_114 : decode cX5_area 114 = .ok (.dload 8, 2) := by decide +kernel
theorem dX5_area_116 : decode cX5_area 116 = .ok (.dload 10, 2) := by decide +kernel
theorem dX5_area_118 : decode cX5_area 118 = .ok (.ddiv, 1) := by decide +kernel
theorem dX5_area_119 : decode cX5_area 119 = .ok (.dstore 12, 2) := by decide +kernel
theorem dX5_area_121 : decode cX5_area 121 = .ok (.dload_n 2, 1) := by decide +kernel
theorem dX5_area_122 : decode cX5_area 122 = .ok (.iload 5, 2) := by decide +kernel
theorem dX5_area_124 : decode cX5_area 124 = .ok (.i2d, 1) := by decide +kernel
theorem dX5_area_125 : decode cX5_area 125 = .ok (.dload 12, 2) := by decide +kernel
theorem dX5_area_127 : decode cX5_area 127 = .ok (.dmul, 1) := by decide +kernel
theorem dX5_area_128 : decode cX5_area 128 = .ok (.dadd, 1) := by decide +kernel
theorem dX5_area_129 : decode cX5_area 129 = .ok (.dstore_n 2, 1) := by decide +kernel
theorem dX5_area_130 : decode cX5_area 130 = .ok (.iinc 4 1, 3) := by decide +kernel
theorem dX5_area_133 : decode cX5_area 133 = .ok (.goto (-118), 3) := by decide +kernel
theorem dX5_area_136 : decode cX5_area 136 = .ok (.dload_n 2, 1) := by decide +kernel
theorem dX5_area_137 : decode cX5_area 137 = .ok (.dreturn, 1) := by decide +kernel
