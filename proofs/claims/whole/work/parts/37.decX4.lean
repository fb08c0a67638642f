set_option maxRecDepth 20000 in
theorem ggX4_init_X0_init : GoodIn wsX4_init wsX0_init := goodIn_r _ [27, 28, 2, 3, 5, 29, 30, 31, 32, 33, 34, 63, 64, 65, 66, 67, 68] (by decide +kernel) (by decide +kernel)
set_option maxRecDepth 20000 in
theorem gX4_init_X0_init_n23 : GoodIn wsX4_init (wsX0_init) := ggX4_init_X0_init
set_option maxRecDepth 20000 in
theorem ggX4_init_X3_init : GoodIn wsX4_init wsX3_init := goodIn_r _ [36, 37, 2, 3, 5, 38, 39, 40, 41, 42, 69, 70, 71, 72, 73] (by decide +kernel) (by decide +kernel)
set_option maxRecDepth 20000 in
theorem gX4_init_X3_init_n30 : GoodIn wsX4_init (wsX3_init) := ggX4_init_X3_init
set_option maxRecDepth 20000 in
theorem ggX4_init_X2_init : GoodIn wsX4_init wsX2_init := goodIn_r _ [44, 45, 2, 3, 46, 5, 47, 48, 74, 75] (by decide +kernel) (by decide +kernel)
set_option maxRecDepth 20000 in
theorem gX4_init_X2_init_n37 : GoodIn wsX4_init (wsX2_init) := ggX4_init_X2_init
set_option maxRecDepth 20000 in
theorem ggX4_init_X1_init : GoodIn wsX4_init wsX1_init := goodIn_r _ [50, 51, 2, 3, 5, 52, 53, 54, 76, 77, 78] (by decide +kernel) (by decide +kernel)
set_option maxRecDepth 20000 in
theorem gX4_init_X1_init_n44 : GoodIn wsX4_init (wsX1_init) := ggX4_init_X1_init
theorem dX4_init_0 : decode cX4_init 0 = .ok (.aload_n 0, 1) := by decide +kernel
theorem dX4_init_1 : decode cX4_init 1 = .ok (.invokespecial 3, 3) := by decide +kernel
theorem dX4_init_4 : decode cX4_init 4 = .ok (.aload_n 0, 1) := by decide +kernel
theorem dX4_init_5 : decode cX4_init 5 = .ok (.iconst 2, 1) := by decide +kernel
theorem dX4_init_6 : decode cX4_init 6 = .ok (.bipush 6, 2) := by decide +kernel
theorem dX4_init_8 : decode cX4_init 8 = .ok (.multianewarray 9 2, 4) := by decide +kernel
theorem dX4_init_12 : decode cX4_init 12 = .ok (.putfield 11, 3) := by decide +kernel
theorem dX4_init_15 : decode cX4_init 15 = .ok (.aload_n 0, 1) := by decide +kernel
theorem dX4_init_16 : decode cX4_init 16 = .ok (.iconst 2, 1) := by decide +kernel
theorem dX4_init_17 : decode cX4_init 17 = .ok (.bipush 6, 2) := by decide +kernel
theorem dX4_init_19 : decode cX4_init 19 = .ok (.multianewarray 9 2, 4) := by decide +kernel
theorem dX4_init_23 : decode cX4_init 23 = .ok (.putfield 14, 3) := by decide +kernel
theorem dX4_init_26 : decode cX4_init 26 = .ok (.aload_n 0, 1) := by decide +kernel
theorem dX4_init_27 : decode cX4_init 27 = .ok (.iconst 2, 1) := by decide +kernel
theorem dX4_init_28 : decode cX4_init 28 = .ok (.newarray .int, 2) := by decide +kernel
theorem dX4_init_30 : decode cX4_init 30 = .ok (.putfield 17, 3) := by decide +kernel
theorem dX4_init_33 : decode cX4_init 33 = .ok (.aload_n 0, 1) := by decide +kernel
theorem dX4_init_34 : decode cX4_init 34 = .ok (.new 21, 3) := by decide +kernel
theorem dX4_init_37 : decode cX4_init 37 = .ok (.dup, 1) := by decide +kernel
theorem dX4_init_38 : decode cX4_init 38 = .ok (.invokespecial 23, 3) := by decide +kernel
theorem dX4_init_41 : decode cX4_init 41 = .ok (.putfield 24, 3) := by decide +kernel
theorem dX4_init_44 : decode cX4_init 44 = .ok (.aload_n 0, 1) := by decide +kernel
theorem dX4_init_45 : decode cX4_init 45 = .ok (.new 28, 3) := by decide +kernel
theorem dX4_init_48 : decode cX4_init 48 = .ok (.dup, 1) := by decide +kernel
theorem dX4_init_49 : decode cX4_init 49 = .ok (.invokespecial 30, 3) := by decide +kernel
theorem dX4_init_52 : decode cX4_init 52 = .ok (.putfield 31, 3) := by decide +kernel
theorem dX4_init_55 : decode cX4_init 55 = .ok (.aload_n 0, 1) := by decide +kernel
theorem dX4_init_56 : decode cX4_init 56 = .ok (.new 35, 3) := by decide +kernel
theorem dX4_init_59 : decode cX4_init 59 = .ok (.dup, 1) := by decide +kernel
theorem dX4_init_60 : decode cX4_init 60 = .ok (.invokespecial 37, 3) := by decide +kernel
theorem dX4_init_63 : decode cX4_init 63 = .ok (.putfield 38, 3) := by decide +kernel
theorem dX4_init_66 : decode cX4_init 66 = .ok (.aload_n 0, 1) := by decide +kernel
theorem dX4_init_67 : decode cX4_init 67 = .ok (.new 42, 3) := by decide +kernel
theorem dX4_init_70 : decode cX4_init 70 = .ok (.dup, 1) := by decide +kernel
theorem dX4_init_71 : decode cX4_init 71 = .ok (.invokespecial 44, 3) := by decide +kernel
theorem dX4_init_74 : decode cX4_init 74 = .ok (.putfield 45, 3) := by decide +kernel
theorem dX4_init_77 : decode cX4_init 77 = .ok (.aload_n 0, 1) := by decide +kernel
theorem dX4_init_78 : decode cX4_init 78 = .ok (.iconst 0, 1) := by decide +kernel
theorem dX4_init_79 : decode cX4_init 79 = .ok (.putfield 49, 3) := by decide +kernel
theorem dX4_init_82 : decode cX4_init 82 = .ok (.return_, 1) := by decide +kernel
set_option maxRecDepth 20000 in
theorem ggX4_vertex_X4_needPolygon : GoodIn wsX4_vertex wsX4_needPolygon := goodIn_ca (goodIn_r _ [11, 1, 2] (by decide +kernel) (by decide +kernel)) (goodIn_sub (fun _ h => List.mem_cons_of_mem _ (List.mem_append_left _ (List.mem_append_right _ h))) (by decide +kernel))
set_option maxRecDepth 20000 in
theorem gX4_vertex_X4_needPolygon : GoodIn wsX4_vertex (va_wsS RX4 53 yX4_needPolygon wsX4_needPolygon) := goodIn_app (goodIn_of _ (by decide +kernel)) ggX4_vertex_X4_needPolygon
set_option maxRecDepth 20000 in
theorem ggX4_vertex_X4_isWithin : GoodIn wsX4_vertex wsX4_isWithin := goodIn_r _ [14] (by decide +kernel) (by decide +kernel)
set_option maxRecDepth 20000 in
theorem gX4_vertex_X4_isWithin : GoodIn wsX4_vertex (va_wsS RX4 57 yX4_isWithin wsX4_isWithin) := goodIn_app (goodIn_of _ (by decide +kernel)) ggX4_vertex_X4_isWithin
theorem dX4_vertex_0 : decode cX4_vertex 0 = .ok (.iload_n 1, 1) := by decide +kernel
theorem dX4_vertex_1 : decode cX4_vertex 1 = .ok (.invokestatic 53, 3) := by decide +kernel
theorem dX4_vertex_4 : decode cX4_vertex 4 = .ok (.iload_n 2, 1) := by decide +kernel
theorem dX4_vertex_5 : decode cX4_vertex 5 = .ok (.bipush 30, 2) := by decide +kernel
theorem dX4_vertex_7 : decode cX4_vertex 7 = .ok (.invokestatic 57, 3) := by decide +kernel
theorem dX4_vertex_10 : decode cX4_vertex 10 = .ok (.ifCond .eq 12, 3) := by decide +kernel
theorem dX4_vertex_13 : decode cX4_vertex 13 = .ok (.iload_n 3, 1) := by decide +kernel
theorem dX4_vertex_14 : decode cX4_vertex 14 = .ok (.bipush 30, 2) := by decide +kernel
theorem dX4_vertex_16 : decode cX4_vertex 16 = .ok (.invokestatic 57, 3) := by decide +kernel
theorem dX4_vertex_19 : decode cX4_vertex 19 = .ok (.ifCond .ne 13, 3) := by decide +kernel
theorem dX4_vertex_22 : decode cX4_vertex 22 = .ok (.new 61, 3) := by decide +kernel
theorem dX4_vertex_25 : decode cX4_vertex 25 = .ok (.dup, 1) := by decide +kernel
theorem dX4_vertex_26 : decode cX4_vertex 26 = .ok (.ldc 63, 2) := by decide +kernel
theorem dX4_vertex_28 : decode cX4_vertex 28 = .ok (.invokespecial 65, 3) := by decide +kernel
theorem dX4_vertex_31 : decode cX4_vertex 31 = .ok (.athrow, 1) := by decide +kernel
theorem dX4_vertex_32 : decode cX4_vertex 32 = .ok (.aload_n 0, 1) := by decide +kernel
theorem dX4_vertex_33 : decode cX4_vertex 33 = .ok (.getfield 17, 3) := by decide +kernel
theorem dX4_vertex_36 : decode cX4_vertex 36 = .ok (.iload_n 1, 1) := by decide +kernel
theorem dX4_vertex_37 : decode cX4_vertex 37 = .ok (.iaload, 1) := by decide +kernel
theorem dX4_vertex_38 : decode cX4_vertex 38 = .ok (.istore 4, 2) := by decide +kernel
theorem dX4_vertex_40 : decode cX4_vertex 40 = .ok (.iload 4, 2) := by decide +kernel
theorem dX4_vertex_42 : decode cX4_vertex 42 = .ok (.bipush 6, 2) := by decide +kernel
theorem dX4_vertex_44 : decode cX4_vertex 44 = .ok (.if_icmp .lt 13, 3) := by decide +kernel
theorem dX4_vertex_47 : decode cX4_vertex 47 = .ok (.new 68, 3) := by decide +kernel
theorem dX4_vertex_50 : decode cX4_vertex 50 = .ok (.dup, 1) := by decide +kernel
theorem dX4_vertex_51 : decode cX4_vertex 51 = .ok (.ldc 70, 2) := by decide +kernel
theorem dX4_vertex_53 : decode cX4_vertex 53 = .ok (.invokespecial 72, 3) := by decide +kernel
theorem dX4_vertex_56 : decode cX4_vertex 56 = .ok (.athrow, 1) := by decide +kernel
theorem dX4_vertex_57 : decode cX4_vertex 57 = .ok (.aload_n 0, 1) := by decide +kernel
theorem dX4_vertex_58 : decode cX4_vertex 58 = .ok (.getfield 11, 3) := by decide +kernel
theorem dX4_vertex_61 : decode cX4_vertex 61 = .ok (.iload_n 1, 1) := by decide +kernel
theorem dX4_vertex_62 : decode cX4_vertex 62 = .ok (.aaload, 1) := by decide +kernel
theorem dX4_vertex_63 : decode cX4_vertex 63 = .ok (.iload 4, 2) := by decide +kernel
theorem dX4_vertex_65 : decode cX4_vertex 65 = .ok (.iload_n 2, 1) := by decide +kernel
theorem dX4_vertex_66 : decode cX4_vertex 66 = .ok (.iastore, 1) := by decide +kernel
theorem dX4_vertex_67 : decode cX4_vertex 67 = .ok (.aload_n 0, 1) := by decide +kernel
theorem dX4_vertex_68 : decode cX4_vertex 68 = .ok (.getfield 14, 3) := by decide +kernel
theorem dX4_vertex_71 : decode cX4_vertex 71 = .ok (.iload_n 1, 1) := by decide +kernel
theorem dX4_vertex_72 : decode cX4_vertex 72 = .ok (.aaload, 1) := by decide +kernel
theorem dX4_vertex_73 : decode cX4_vertex 73 = .ok (.iload 4, 2) := by decide +kernel
theorem dX4_vertex_75 : decode cX4_vertex 75 = .ok (.iload_n 3, 1) := by decide +kernel
theorem dX4_vertex_76 : decode cX4_vertex 76 = .ok (.iastore, 1) := by decide +kernel
theorem dX4_vertex_77 : decode cX4_vertex 77 = .ok (.aload_n 0, 1) := by decide +kernel
theorem dX4_vertex_78 : decode cX4_vertex 78 = .ok (.getfield 17, 3) := by decide +kernel
theorem dX4_vertex_81 : decode cX4_vertex 81 = .ok (.iload_n 1, 1) := by decide +kernel
theorem dX4_vertex_82 : decode cX4_vertex 82 = .ok (.iload 4, 2) := by decide +kernel
theorem dX4_vertex_84 : decode cX4_vertex 84 = .ok (.iconst 1, 1) := by decide +kernel
theorem dX4_vertex_85 : decode cX4_vertex 85 = .ok (.iadd, 1) := by decide +kernel
theorem dX4_vertex_86 : decode cX4_vertex 86 = .ok (.iastore, 1) := by decide +kernel
theorem dX4_vertex_87 : decode cX4_vertex 87 = .ok (.iload 4, 2) := by decide +kernel
theorem dX4_vertex_89 : decode cX4_vertex 89 = .ok (.iconst 1, 1) := by decide +kernel
theorem dX4_vertex_90 : decode cX4_vertex 90 = .ok (.iadd, 1) := by decide +kernel
theorem dX4_vertex_91 : decode cX4_vertex 91 = .ok (.ireturn, 1) := by decide +kernel
set_option maxRecDepth 20000 in
theorem ggX4_clear_X4_needPolygon : GoodIn wsX4_clear wsX4_needPolygon := goodIn_ca (goodIn_r _ [5, 6, 7] (by decide +kernel) (by decide +kernel)) (goodIn_sub (fun _ h => List.mem_cons_of_mem _ (List.mem_append_right _ h)) (by decide +kernel))
set_option maxRecDepth 20000 in
theorem gX4_clear_X4_needPolygon : GoodIn wsX4_clear (va_wsS RX4 53 yX4_needPolygon wsX4_needPolygon) := goodIn_app (goodIn_of _ (by decide +kernel)) ggX4_clear_X4_needPolygon
theorem dX4_clear_0 : decode cX4_clear 0 = .ok (.iload_n 1, 1) := by decide +kernel
theorem dX4_clear_1 : decode cX4_clear 1 = .ok (.invokestatic 53, 3) := by decide +kernel
theorem dX4_clear_4 : decode cX4_clear 4 = .ok (.aload_n 0, 1) := by decide +kernel
theorem dX4_clear_5 : decode cX4_clear 5 = .ok (.getfield 17, 3) := by decide +kernel
theorem dX4_clear_8 : decode cX4_clear 8 = .ok (.iload_n 1, 1) := by decide +kernel
theorem dX4_clear_9 : decode cX4_clear 9 = .ok (.iaload, 1) := by decide +kernel
theorem dX4_clear_10 : decode cX4_clear 10 = .ok (.istore_n 2, 1) := by decide +kernel
theorem dX4_clear_11 : decode cX4_clear 11 = .ok (.aload_n 0, 1) := by decide +kernel
theorem dX4_clear_12 : decode cX4_clear 12 = .ok (.getfield 17, 3) := by decide +kernel
theorem dX4_clear_15 : decode cX4_clear 15 = .ok (.iload_n 1, 1) := by decide +kernel
theorem dX4_clear_16 : decode cX4_clear 16 = .ok (.iconst 0, 1) := by decide +kernel
theorem dX4_clear_17 : decode cX4_clear 17 = .ok (.iastore, 1) := by decide +kernel
theorem dX4_clear_18 : decode cX4_clear 18 = .ok (.iload_n 2, 1) := by decide +kernel
theorem dX4_clear_19 : decode cX4_clear 19 = .ok (.ireturn, 1) := by decide +kernel
set_option maxRecDepth 20000 in
theorem ggX4_overlay_X0_empty : GoodIn wsX4_overlay wsX0_empty := goodIn_r _ [10, 11, 12, 148, 149, 150, 151, 152, 153] (by decide +kernel) (by decide +kernel)
set_option maxRecDepth 20000 in
theorem gX4_overlay_X0_empty : GoodIn wsX4_overlay (wsV RX4 73 RX0 yX0_empty wsX0_empty) := goodIn_app (goodIn_of _ (by decide +kernel)) ggX4_overlay_X0_empty
set_option maxRecDepth 20000 in
theorem ggX4_overlay_X4_takeEdges : GoodIn wsX4_overlay wsX4_takeEdges := goodIn_r _ [17, 18, 19, 20, 1, 21, 22, 23, 9, 24, 11, 25, 26, 27, 28, 12, 140, 141, 142, 143, 144, 145, 146, 147, 148, 149, 150, 151, 152, 153] (by decide +kernel) (by decide +kernel)
set_option maxRecDepth 20000 in
theorem gX4_overlay_X4_takeEdges : GoodIn wsX4_overlay (wsV RX4 76 RX4 yX4_takeEdges wsX4_takeEdges) := goodIn_app (goodIn_of _ (by decide +kernel)) ggX4_overlay_X4_takeEdges
set_option maxRecDepth 20000 in
theorem ggX4_overlay_X3_gather : GoodIn wsX4_overlay wsX3_gather := goodIn_r _ [33, 34, 35, 36, 37, 38, 39, 40, 41, 32, 42, 43, 44, 45, 46, 47, 48, 49, 50, 51, 52, 53, 54, 55, 56, 57, 58, 59, 60, 61, 9, 62, 27, 25, 63, 64, 65, 66, 28, 26, 67, 68, 69, 70, 71, 72, 73, 74, 75, 76, 11, 77, 78, 79, 80, 81, 82, 83, 84, 85, 86, 87, 88, 89, 90, 91, 92, 156, 157, 158, 159, 160, 148, 149, 150, 151, 152, 153] (by decide +kernel) (by decide +kernel)
set_option maxRecDepth 20000 in
theorem gX4_overlay_X3_gather : GoodIn wsX4_overlay (wsV RX4 79 RX3 yX3_gather wsX3_gather) := goodIn_app (goodIn_of _ (by decide +kernel)) ggX4_overlay_X3_gather
set_option maxRecDepth 20000 in
theorem ggX4_overlay_X2_cut : GoodIn wsX4_overlay wsX2_cut := goodIn_r _ [97, 98, 99, 100, 101, 96, 102, 103, 104, 105, 106, 107, 9, 108, 11, 25, 27, 87, 88, 89, 90, 26, 91, 60, 61, 62, 92, 64, 65, 66, 28, 109, 110, 111, 112, 113, 114, 115, 154, 155, 156, 157, 158, 159, 160, 148, 149, 150, 151, 152, 153] (by decide +kernel) (by decide +kernel)
set_option maxRecDepth 20000 in
theorem gX4_overlay_X2_cut : GoodIn wsX4_overlay (wsV RX4 83 RX2 yX2_cut wsX2_cut) := goodIn_app (goodIn_of _ (by decide +kernel)) ggX4_overlay_X2_cut
set_option maxRecDepth 20000 in
theorem ggX4_overlay_X1_find : GoodIn wsX4_overlay wsX1_find := goodIn_r _ [120, 121, 122, 123, 124, 125, 119, 126, 127, 128, 129, 130, 131, 110, 111, 112, 113, 114, 115, 132, 133, 134, 135, 136, 137, 138, 139, 161, 162, 163, 156, 157, 158, 159, 160] (by decide +kernel) (by decide +kernel)
set_option maxRecDepth 20000 in
theorem gX4_overlay_X1_find : GoodIn wsX4_overlay (wsV RX4 91 RX1 yX1_find wsX1_find) := goodIn_app (goodIn_of _ (by decide +kernel)) ggX4_overlay_X1_find
theorem dX4_overlay_0 : decode cX4_overlay 0 = .ok (.aload_n 0, 1) := by decide +kernel
theorem dX4_overlay_1 : decode cX4_overlay 1 = .ok (.getfield 24, 3) := by decide +kernel
theorem dX4_overlay_4 : decode cX4_overlay 4 = .ok (.invokevirtual 73, 3) := by decide +kernel
theorem dX4_overlay_7 : decode cX4_overlay 7 = .ok (.iconst 0, 1) := by decide +kernel
theorem dX4_overlay_8 : decode cX4_overlay 8 = .ok (.istore_n 1, 1) := by decide +kernel
theorem dX4_overlay_9 : decode cX4_overlay 9 = .ok (.iload_n 1, 1) := by decide +kernel
theorem dX4_overlay_10 : decode cX4_overlay 10 = .ok (.iconst 2, 1) := by decide +kernel
theorem dX4_overlay_11 : decode cX4_overlay 11 = .ok (.if_icmp .ge 14, 3) := by decide +kernel
theorem dX4_overlay_14 : decode cX4_overlay 14 = .ok (.aload_n 0, 1) := by decide +kernel
theorem dX4_overlay_15 : decode cX4_overlay 15 = .ok (.iload_n 1, 1) := by decide +kernel
theorem dX4_overlay_16 : decode cX4_overlay 16 = .ok (.invokevirtual 76, 3) := by decide +kernel
theorem dX4_overlay_19 : decode cX4_overlay 19 = .ok (.iinc 1 1, 3) := by decide +kernel
theorem dX4_overlay_22 : decode cX4_overlay 22 = .ok (.goto (-13), 3) := by decide +kernel
theorem dX4_overlay_25 : decode cX4_overlay 25 = .ok (.aload_n 0, 1) := by decide +kernel
theorem dX4_overlay_26 : decode cX4_overlay 26 = .ok (.getfield 31, 3) := by decide +kernel
theorem dX4_overlay_29 : decode cX4_overlay 29 = .ok (.aload_n 0, 1) := by decide +kernel
theorem dX4_overlay_30 : decode cX4_overlay 30 = .ok (.getfield 24, 3) := by decide +kernel
theorem dX4_overlay_33 : decode cX4_overlay 33 = .ok (.invokevirtual 79, 3) := by decide +kernel
theorem dX4_overlay_36 : decode cX4_overlay 36 = .ok (.aload_n 0, 1) := by decide +kernel
theorem dX4_overlay_37 : decode cX4_overlay 37 = .ok (.getfield 38, 3) := by decide +kernel
theorem dX4_overlay_40 : decode cX4_overlay 40 = .ok (.aload_n 0, 1) := by decide +kernel
theorem dX4_overlay_41 : decode cX4_overlay 41 = .ok (.getfield 24, 3) := by decide +kernel
theorem dX4_overlay_44 : decode cX4_overlay 44 = .ok (.aload_n 0, 1) := by decide +kernel
theorem dX4_overlay_45 : decode cX4_overlay 45 = .ok (.getfield 31, 3) := by decide +kernel
theorem dX4_overlay_48 : decode cX4_overlay 48 = .ok (.invokevirtual 83, 3) := by decide +kernel
theorem dX4_overlay_51 : decode cX4_overlay 51 = .ok (.aload_n 0, 1) := by decide +kernel
theorem dX4_overlay_52 : decode cX4_overlay 52 = .ok (.getfield 45, 3) := by decide +kernel
theorem dX4_overlay_55 : decode cX4_overlay 55 = .ok (.aload_n 0, 1) := by decide +kernel
theorem dX4_overlay_56 : decode cX4_overlay 56 = .ok (.getfield 24, 3) := by decide +kernel
theorem dX4_overlay_59 : decode cX4_overlay 59 = .ok (.getfield 87, 3) := by decide +kernel
theorem dX4_overlay_62 : decode cX4_overlay 62 = .ok (.aload_n 0, 1) := by decide +kernel
theorem dX4_overlay_63 : decode cX4_overlay 63 = .ok (.getfield 31, 3) := by decide +kernel
theorem dX4_overlay_66 : decode cX4_overlay 66 = .ok (.invokevirtual 91, 3) := by decide +kernel
theorem dX4_overlay_69 : decode cX4_overlay 69 = .ok (.aload_n 0, 1) := by decide +kernel
theorem dX4_overlay_70 : decode cX4_overlay 70 = .ok (.iconst 1, 1) := by decide +kernel
theorem dX4_overlay_71 : decode cX4_overlay 71 = .ok (.putfield 49, 3) := by decide +kernel
theorem dX4_overlay_74 : decode cX4_overlay 74 = .ok (.aload_n 0, 1) := by decide +kernel
theorem dX4_overlay_75 : decode cX4_overlay 75 = .ok (.getfield 38, 3) := by decide +kernel
theorem dX4_overlay_78 : decode cX4_overlay 78 = .ok (.getfield 95, 3) := by decide +kernel
theorem dX4_overlay_81 : decode cX4_overlay 81 = .ok (.ireturn, 1) := by decide +kernel
set_option maxRecDepth 20000 in
theorem ggX4_size_X4_needOverlay : GoodIn wsX4_size wsX4_needOverlay := goodIn_ca (goodIn_r _ [11, 12, 13, 14, 15, 16, 17, 18, 19, 20, 21, 22] (by decide +kernel) (by decide +kernel)) (goodIn_sub (fun _ h => List.mem_cons_of_mem _ (List.mem_append_right _ h)) (by decide +kernel))
set_option maxRecDepth 20000 in
theorem gX4_size_X4_needOverlay : GoodIn wsX4_size (wsV RX4 96 RX4 yX4_needOverlay wsX4_needOverlay) := goodIn_app (goodIn_of _ (by decide +kernel)) ggX4_size_X4_needOverlay
theorem dX4_size_0 : decode cX4_size 0 = .ok (.aload_n 0, 1) := by decide +kernel
theorem dX4_size_1 : decode cX4_size 1 = .ok (.invokevirtual 96, 3) := by decide +kernel
theorem dX4_size_4 : decode cX4_size 4 = .ok (.iload_n 1, 1) := by decide +kernel
theorem dX4_size_5 : decode cX4_size 5 = .ok (.tableswitch 93 0 4 #[35, 43, 51, 59, 85], 35) := by decide +kernel
theorem dX4_size_40 : decode cX4_size 40 = .ok (.aload_n 0, 1) := by decide +kernel
theorem dX4_size_41 : decode cX4_size 41 = .ok (.getfield 24, 3) := by decide +kernel
theorem dX4_size_44 : decode cX4_size 44 = .ok (.getfield 87, 3) := by decide +kernel
theorem dX4_size_47 : decode cX4_size 47 = .ok (.ireturn, 1) := by decide +kernel
theorem dX4_size_48 : decode cX4_size 48 = .ok (.aload_n 0, 1) := by decide +kernel
theorem dX4_size_49 : decode cX4_size 49 = .ok (.getfield 31, 3) := by decide +kernel
theorem dX4_size_52 : decode cX4_size 52 = .ok (.getfield 99, 3) := by decide +kernel
theorem dX4_size_55 : decode cX4_size 55 = .ok (.ireturn, 1) := by decide +kernel
theorem dX4_size_56 : decode cX4_size 56 = .ok (.aload_n 0, 1) := by decide +kernel
theorem dX4_size_57 : decode cX4_size 57 = .ok (.getfield 38, 3) := by decide +kernel
theorem dX4_size_60 : decode cX4_size 60 = .ok (.getfield 95, 3) := by decide +kernel
theorem dX4_size_63 : decode cX4_size 63 = .ok (.ireturn, 1) := by decide +kernel
theorem dX4_size_64 : decode cX4_size 64 = .ok (.iconst 1, 1) := by decide +kernel
theorem dX4_size_65 : decode cX4_size 65 = .ok (.aload_n 0, 1) := by decide +kernel
theorem dX4_size_66 : decode cX4_size 66 = .ok (.getfield 45, 3) := by decide +kernel
theorem dX4_size_69 : decode cX4_size 69 = .ok (.getfield 100, 3) := by decide +kernel
theorem dX4_size_72 : decode cX4_size 72 = .ok (.iadd, 1) := by decide +kernel
theorem dX4_size_73 : decode cX4_size 73 = .ok (.aload_n 0, 1) := by decide +kernel
theorem dX4_size_74 : decode cX4_size 74 = .ok (.getfield 38, 3) := by decide +kernel
theorem dX4_size_77 : decode cX4_size 77 = .ok (.getfield 95, 3) := by decide +kernel
theorem dX4_size_80 : decode cX4_size 80 = .ok (.iadd, 1) := by decide +kernel
theorem dX4_size_81 : decode cX4_size 81 = .ok (.aload_n 0, 1) := by decide +kernel
theorem dX4_size_82 : decode cX4_size 82 = .ok (.getfield 31, 3) := by decide +kernel
theorem dX4_size_85 : decode cX4_size 85 = .ok (.getfield 99, 3) := by decide +kernel
theorem dX4_size_88 : decode cX4_size 88 = .ok (.isub, 1) := by decide +kernel
theorem dX4_size_89 : decode cX4_size 89 = .ok (.ireturn, 1) := by decide +kernel
theorem dX4_size_90 : decode cX4_size 90 = .ok (.aload_n 0, 1) := by decide +kernel
theorem dX4_size_91 : decode cX4_size 91 = .ok (.getfield 45, 3) := by decide +kernel
theorem dX4_size_94 : decode cX4_size 94 = .ok (.getfield 103, 3) := by decide +kernel
theorem dX4_size_97 : decode cX4_size 97 = .ok (.ireturn, 1) := by decide +kernel
theorem dX4_size_98 : decode cX4_size 98 = .ok (.new 61, 3) := by decide +kernel
theorem dX4_size_101 : decode cX4_size 101 = .ok (.dup, 1) := by decide +kernel
theorem dX4_size_102 : decode cX4_size 102 = .ok (.ldc 106, 2) := by decide +kernel
theorem dX4_size_104 : decode cX4_size 104 = .ok (.invokespecial 65, 3) := by decide +kernel
theorem dX4_size_107 : decode cX4_size 107 = .ok (.athrow, 1) := by decide +kernel
set_option maxRecDepth 20000 in
theorem ggX4_point_X4_needOverlay : GoodIn wsX4_point wsX4_needOverlay := goodIn_ca (goodIn_r _ [10, 11, 12, 13, 14, 15, 16, 17, 18, 19, 20, 21] (by decide +kernel) (by decide +kernel)) (goodIn_sub (fun _ h => List.mem_cons_of_mem _ (List.mem_append_right _ h)) (by decide +kernel))
set_option maxRecDepth 20000 in
theorem gX4_point_X4_needOverlay : GoodIn wsX4_point (wsV RX4 96 RX4 yX4_needOverlay wsX4_needOverlay) := goodIn_app (goodIn_of _ (by decide +kernel)) ggX4_point_X4_needOverlay
theorem dX4_point_0 : decode cX4_point 0 = .ok (.aload_n 0, 1) := by decide +kernel
theorem dX4_point_1 : decode cX4_point 1 = .ok (.invokevirtual 96, 3) := by decide +kernel
theorem dX4_point_4 : decode cX4_point 4 = .ok (.iload_n 1, 1) := by decide +kernel
theorem dX4_point_5 : decode cX4_point 5 = .ok (.ifCond .lt 14, 3) := by decide +kernel
theorem dX4_point_8 : decode cX4_point 8 = .ok (.iload_n 1, 1) := by decide +kernel
theorem dX4_point_9 : decode cX4_point 9 = .ok (.aload_n 0, 1) := by decide +kernel
theorem dX4_point_10 : decode cX4_point 10 = .ok (.getfield 31, 3) := by decide +kernel
theorem dX4_point_13 : decode cX4_point 13 = .ok (.getfield 99, 3) := by decide +kernel
theorem dX4_point_16 : decode cX4_point 16 = .ok (.if_icmp .lt 13, 3) := by decide +kernel
theorem dX4_point_19 : decode cX4_point 19 = .ok (.new 108, 3) := by decide +kernel
theorem dX4_point_22 : decode cX4_point 22 = .ok (.dup, 1) := by decide +kernel
theorem dX4_point_23 : decode cX4_point 23 = .ok (.ldc 110, 2) := by decide +kernel
theorem dX4_point_25 : decode cX4_point 25 = .ok (.invokespecial 112, 3) := by decide +kernel
theorem dX4_point_28 : decode cX4_point 28 = .ok (.athrow, 1) := by decide +kernel
theorem dX4_point_29 : decode cX4_point 29 = .ok (.iload_n 2, 1) := by decide +kernel
theorem dX4_point_30 : decode cX4_point 30 = .ok (.tableswitch 56 0 2 #[26, 36, 46], 26) := by decide +kernel
theorem dX4_point_56 : decode cX4_point 56 = .ok (.aload_n 0, 1) := by decide +kernel
theorem dX4_point_57 : decode cX4_point 57 = .ok (.getfield 31, 3) := by decide +kernel
theorem dX4_point_60 : decode cX4_point 60 = .ok (.getfield 113, 3) := by decide +kernel
theorem dX4_point_63 : decode cX4_point 63 = .ok (.iload_n 1, 1) := by decide +kernel
theorem dX4_point_64 : decode cX4_point 64 = .ok (.iaload, 1) := by decide +kernel
theorem dX4_point_65 : decode cX4_point 65 = .ok (.ireturn, 1) := by decide +kernel
theorem dX4_point_66 : decode cX4_point 66 = .ok (.aload_n 0, 1) := by decide +kernel
theorem dX4_point_67 : decode cX4_point 67 = .ok (.getfield 31, 3) := by decide +kernel
theorem dX4_point_70 : decode cX4_point 70 = .ok (.getfield 116, 3) := by decide +kernel
theorem dX4_point_73 : decode cX4_point 73 = .ok (.iload_n 1, 1) := by decide +kernel
theorem dX4_point_74 : decode cX4_point 74 = .ok (.iaload, 1) := by decide +kernel
theorem dX4_point_75 : decode cX4_point 75 = .ok (.ireturn, 1) := by decide +kernel
theorem dX4_point_76 : decode cX4_point 76 = .ok (.aload_n 0, 1) := by decide +kernel
theorem dX4_point_77 : decode cX4_point 77 = .ok (.getfield 31, 3) := by decide +kernel
theorem dX4_point_80 : decode cX4_point 80 = .ok (.getfield 119, 3) := by decide +kernel
theorem dX4_point_83 : decode cX4_point 83 = .ok (.iload_n 1, 1) := by decide +kernel
theorem dX4_point_84 : decode cX4_point 84 = .ok (.iaload, 1) := by decide +kernel
theorem dX4_point_85 : decode cX4_point 85 = .ok (.ireturn, 1) := by decide +kernel
theorem dX4_point_86 : decode cX4_point 86 = .ok (.new 61, 3) := by decide +kernel
theorem dX4_point_89 : decode cX4_point 89 = .ok (.dup, 1) := by decide +kernel
theorem dX4_point_90 : decode cX4_point 90 = .ok (.ldc 122, 2) := by decide +kernel
theorem dX4_point_92 : decode cX4_point 92 = .ok (.invokespecial 65, 3) := by decide +kernel
theorem dX4_point_95 : decode cX4_point 95 = .ok (.athrow, 1) := by decide +kernel
set_option maxRecDepth 20000 in
theorem ggX4_piece_X4_needOverlay : GoodIn wsX4_piece wsX4_needOverlay := goodIn_ca (goodIn_r _ [10, 11, 12, 13, 14, 15, 16, 17, 18, 19, 20, 21] (by decide +kernel) (by decide +kernel)) (goodIn_sub (fun _ h => List.mem_cons_of_mem _ (List.mem_append_right _ h)) (by decide +kernel))
set_option maxRecDepth 20000 in
theorem gX4_piece_X4_needOverlay : GoodIn wsX4_piece (wsV RX4 96 RX4 yX4_needOverlay wsX4_needOverlay) := goodIn_app (goodIn_of _ (by decide +kernel)) ggX4_piece_X4_needOverlay
theorem dX4_piece_0 : decode cX4_piece 0 = .ok (.aload_n 0, 1) := by decide +kernel
theorem dX4_piece_1 : decode cX4_piece 1 = .ok (.invokevirtual 96, 3) := by decide +kernel
theorem dX4_piece_4 : decode cX4_piece 4 = .ok (.iload_n 1, 1) := by decide +kernel
theorem dX4_piece_5 : decode cX4_piece 5 = .ok (.ifCond .lt 14, 3) := by decide +kernel
theorem dX4_piece_8 : decode cX4_piece 8 = .ok (.iload_n 1, 1) := by decide +kernel
theorem dX4_piece_9 : decode cX4_piece 9 = .ok (.aload_n 0, 1) := by decide +kernel
theorem dX4_piece_10 : decode cX4_piece 10 = .ok (.getfield 38, 3) := by decide +kernel
theorem dX4_piece_13 : decode cX4_piece 13 = .ok (.getfield 95, 3) := by decide +kernel
theorem dX4_piece_16 : decode cX4_piece 16 = .ok (.if_icmp .lt 13, 3) := by decide +kernel
theorem dX4_piece_19 : decode cX4_piece 19 = .ok (.new 108, 3) := by decide +kernel
theorem dX4_piece_22 : decode cX4_piece 22 = .ok (.dup, 1) := by decide +kernel
theorem dX4_piece_23 : decode cX4_piece 23 = .ok (.ldc 124, 2) := by decide +kernel
theorem dX4_piece_25 : decode cX4_piece 25 = .ok (.invokespecial 112, 3) := by decide +kernel
theorem dX4_piece_28 : decode cX4_piece 28 = .ok (.athrow, 1) := by decide +kernel
theorem dX4_piece_29 : decode cX4_piece 29 = .ok (.iload_n 2, 1) := by decide +kernel
theorem dX4_piece_30 : decode cX4_piece 30 = .ok (.ifCond .lt 9, 3) := by decide +kernel
theorem dX4_piece_33 : decode cX4_piece 33 = .ok (.iload_n 2, 1) := by decide +kernel
theorem dX4_piece_34 : decode cX4_piece 34 = .ok (.bipush 8, 2) := by decide +kernel
theorem dX4_piece_36 : decode cX4_piece 36 = .ok (.if_icmp .lt 13, 3) := by decide +kernel
theorem dX4_piece_39 : decode cX4_piece 39 = .ok (.new 61, 3) := by decide +kernel
theorem dX4_piece_42 : decode cX4_piece 42 = .ok (.dup, 1) := by decide +kernel
theorem dX4_piece_43 : decode cX4_piece 43 = .ok (.ldc 126, 2) := by decide +kernel
theorem dX4_piece_45 : decode cX4_piece 45 = .ok (.invokespecial 65, 3) := by decide +kernel
theorem dX4_piece_48 : decode cX4_piece 48 = .ok (.athrow, 1) := by decide +kernel
theorem dX4_piece_49 : decode cX4_piece 49 = .ok (.aload_n 0, 1) := by decide +kernel
theorem dX4_piece_50 : decode cX4_piece 50 = .ok (.getfield 38, 3) := by decide +kernel
theorem dX4_piece_53 : decode cX4_piece 53 = .ok (.getfield 128, 3) := by decide +kernel
theorem dX4_piece_56 : decode cX4_piece 56 = .ok (.iload_n 2, 1) := by decide +kernel
theorem dX4_piece_57 : decode cX4_piece 57 = .ok (.aaload, 1) := by decide +kernel
theorem dX4_piece_58 : decode cX4_piece 58 = .ok (.iload_n 1, 1) := by decide +kernel
theorem dX4_piece_59 : decode cX4_piece 59 = .ok (.iaload, 1) := by decide +kernel
theorem dX4_piece_60 : decode cX4_piece 60 = .ok (.ireturn, 1) := by decide +kernel
set_option maxRecDepth 20000 in
theorem ggX4_common_X4_needOverlay : GoodIn wsX4_common wsX4_needOverlay := goodIn_ca (goodIn_r _ [6, 7, 8, 9, 28, 29, 30, 31, 32, 33, 34, 35] (by decide +kernel) (by decide +kernel)) (goodIn_sub (fun _ h => List.mem_cons_of_mem _ (List.mem_append_left _ (List.mem_append_right _ h))) (by decide +kernel))
set_option maxRecDepth 20000 in
theorem gX4_common_X4_needOverlay : GoodIn wsX4_common (wsV RX4 96 RX4 yX4_needOverlay wsX4_needOverlay) := goodIn_app (goodIn_of _ (by decide +kernel)) ggX4_common_X4_needOverlay
set_option maxRecDepth 20000 in
theorem ggX4_common_X4_needEdges : GoodIn wsX4_common wsX4_needEdges := goodIn_ca (goodIn_r _ [13, 14, 15, 16, 28, 29, 30, 31, 32, 33, 34, 35, 36, 37, 38, 39, 40, 41] (by decide +kernel) (by decide +kernel)) (goodIn_sub (fun _ h => List.mem_cons_of_mem _ (List.mem_append_right _ h)) (by decide +kernel))
set_option maxRecDepth 20000 in
theorem gX4_common_X4_needEdges : GoodIn wsX4_common (wsV RX4 131 RX4 yX4_needEdges wsX4_needEdges) := goodIn_app (goodIn_of _ (by decide +kernel)) ggX4_common_X4_needEdges
set_option maxRecDepth 20000 in
theorem ggX4_common_X3_firstOnBoth : GoodIn wsX4_common wsX3_firstOnBoth := goodIn_r _ [21, 22, 23, 42, 43, 44, 45, 46] (by decide +kernel) (by decide +kernel)
set_option maxRecDepth 20000 in
theorem gX4_common_X3_firstOnBoth : GoodIn wsX4_common (wsV RX4 135 RX3 yX3_firstOnBoth wsX3_firstOnBoth) := goodIn_app (goodIn_of _ (by decide +kernel)) ggX4_common_X3_firstOnBoth
set_option maxRecDepth 20000 in
theorem ggX4_common_X3_lastOnBoth : GoodIn wsX4_common wsX3_lastOnBoth := goodIn_r _ [27, 22, 23, 42, 43, 44, 45, 46] (by decide +kernel) (by decide +kernel)
set_option maxRecDepth 20000 in
theorem gX4_common_X3_lastOnBoth : GoodIn wsX4_common (wsV RX4 139 RX3 yX3_lastOnBoth wsX3_lastOnBoth) := goodIn_app (goodIn_of _ (by decide +kernel)) ggX4_common_X3_lastOnBoth
theorem dX4_common_0 : decode cX4_common 0 = .ok (.aload_n 0, 1) := by decide +kernel
theorem dX4_common_1 : decode cX4_common 1 = .ok (.invokevirtual 96, 3) := by decide +kernel
theorem dX4_common_4 : decode cX4_common 4 = .ok (.aload_n 0, 1) := by decide +kernel
theorem dX4_common_5 : decode cX4_common 5 = .ok (.iload_n 1, 1) := by decide +kernel
theorem dX4_common_6 : decode cX4_common 6 = .ok (.iload_n 2, 1) := by decide +kernel
theorem dX4_common_7 : decode cX4_common 7 = .ok (.invokevirtual 131, 3) := by decide +kernel
theorem dX4_common_10 : decode cX4_common 10 = .ok (.iload_n 1, 1) := by decide +kernel
theorem dX4_common_11 : decode cX4_common 11 = .ok (.iload_n 2, 1) := by decide +kernel
theorem dX4_common_12 : decode cX4_common 12 = .ok (.if_icmp .ne 7, 3) := by decide +kernel
theorem dX4_common_15 : decode cX4_common 15 = .ok (.iconst (-1), 1) := by decide +kernel
theorem dX4_common_16 : decode cX4_common 16 = .ok (.goto 12, 3) := by decide +kernel
theorem dX4_common_19 : decode cX4_common 19 = .ok (.aload_n 0, 1) := by decide +kernel
theorem dX4_common_20 : decode cX4_common 20 = .ok (.getfield 31, 3) := by decide +kernel
theorem dX4_common_23 : decode cX4_common 23 = .ok (.iload_n 1, 1) := by decide +kernel
theorem dX4_common_24 : decode cX4_common 24 = .ok (.iload_n 2, 1) := by decide +kernel
theorem dX4_common_25 : decode cX4_common 25 = .ok (.invokevirtual 135, 3) := by decide +kernel
theorem dX4_common_28 : decode cX4_common 28 = .ok (.istore_n 3, 1) := by decide +kernel
theorem dX4_common_29 : decode cX4_common 29 = .ok (.iload_n 3, 1) := by decide +kernel
theorem dX4_common_30 : decode cX4_common 30 = .ok (.iconst (-1), 1) := by decide +kernel
theorem dX4_common_31 : decode cX4_common 31 = .ok (.if_icmp .ne 5, 3) := by decide +kernel
theorem dX4_common_34 : decode cX4_common 34 = .ok (.iconst 0, 1) := by decide +kernel
theorem dX4_common_35 : decode cX4_common 35 = .ok (.ireturn, 1) := by decide +kernel
theorem dX4_common_36 : decode cX4_common 36 = .ok (.iload_n 3, 1) := by decide +kernel
theorem dX4_common_37 : decode cX4_common 37 = .ok (.aload_n 0, 1) := by decide +kernel
theorem dX4_common_38 : decode cX4_common 38 = .ok (.getfield 31, 3) := by decide +kernel
theorem dX4_common_41 : decode cX4_common 41 = .ok (.iload_n 1, 1) := by decide +kernel
theorem dX4_common_42 : decode cX4_common 42 = .ok (.iload_n 2, 1) := by decide +kernel
theorem dX4_common_43 : decode cX4_common 43 = .ok (.invokevirtual 139, 3) := by decide +kernel
theorem dX4_common_46 : decode cX4_common 46 = .ok (.if_icmp .ne 7, 3) := by decide +kernel
theorem dX4_common_49 : decode cX4_common 49 = .ok (.iconst 1, 1) := by decide +kernel
theorem dX4_common_50 : decode cX4_common 50 = .ok (.goto 4, 3) := by decide +kernel
theorem dX4_common_53 : decode cX4_common 53 = .ok (.iconst 2, 1) := by decide +kernel
theorem dX4_common_54 : decode cX4_common 54 = .ok (.ireturn, 1) := by decide +kernel
set_option maxRecDepth 20000 in
theorem ggX4_shared_X4_needOverlay : GoodIn wsX4_shared wsX4_needOverlay := goodIn_ca (goodIn_r _ [8, 9, 10, 11, 30, 31, 32, 33, 34, 35, 36, 37] (by decide +kernel) (by decide +kernel)) (goodIn_sub (fun _ h => List.mem_cons_of_mem _ (List.mem_append_left _ (List.mem_append_right _ h))) (by decide +kernel))
set_option maxRecDepth 20000 in
theorem gX4_shared_X4_needOverlay : GoodIn wsX4_shared (wsV RX4 96 RX4 yX4_needOverlay wsX4_needOverlay) := goodIn_app (goodIn_of _ (by decide +kernel)) ggX4_shared_X4_needOverlay
set_option maxRecDepth 20000 in
theorem ggX4_shared_X4_needEdges : GoodIn wsX4_shared wsX4_needEdges := goodIn_ca (goodIn_r _ [15, 16, 17, 18, 30, 31, 32, 33, 34, 35, 36, 37, 38, 39, 40, 41, 42, 43] (by decide +kernel) (by decide +kernel)) (goodIn_sub (fun _ h => List.mem_cons_of_mem _ (List.mem_append_right _ h)) (by decide +kernel))
set_option maxRecDepth 20000 in
theorem gX4_shared_X4_needEdges : GoodIn wsX4_shared (wsV RX4 131 RX4 yX4_needEdges wsX4_needEdges) := goodIn_app (goodIn_of _ (by decide +kernel)) ggX4_shared_X4_needEdges
set_option maxRecDepth 20000 in
theorem ggX4_shared_X3_lastOnBoth : GoodIn wsX4_shared wsX3_lastOnBoth := goodIn_r _ [23, 24, 25, 44, 45, 46, 47, 48] (by decide +kernel) (by decide +kernel)
set_option maxRecDepth 20000 in
theorem gX4_shared_X3_lastOnBoth : GoodIn wsX4_shared (wsV RX4 139 RX3 yX3_lastOnBoth wsX3_lastOnBoth) := goodIn_app (goodIn_of _ (by decide +kernel)) ggX4_shared_X3_lastOnBoth
set_option maxRecDepth 20000 in
theorem ggX4_shared_X3_firstOnBoth : GoodIn wsX4_shared wsX3_firstOnBoth := goodIn_r _ [29, 24, 25, 44, 45, 46, 47, 48] (by decide +kernel) (by decide +kernel)
set_option maxRecDepth 20000 in
theorem gX4_shared_X3_firstOnBoth : GoodIn wsX4_shared (wsV RX4 135 RX3 yX3_firstOnBoth wsX3_firstOnBoth) := goodIn_app (goodIn_of _ (by decide +kernel)) ggX4_shared_X3_firstOnBoth
theorem dX4_shared_0 : decode cX4_shared 0 = .ok (.aload_n 0, 1) := by decide +kernel
theorem dX4_shared_1 : decode cX4_shared 1 = .ok (.invokevirtual 96, 3) := by decide +kernel
theorem dX4_shared_4 : decode cX4_shared 4 = .ok (.aload_n 0, 1) := by decide +kernel
theorem dX4_shared_5 : decode cX4_shared 5 = .ok (.iload_n 1, 1) := by decide +kernel
theorem dX4_shared_6 : decode cX4_shared 6 = .ok (.iload_n 2, 1) := by decide +kernel
theorem dX4_shared_7 : decode cX4_shared 7 = .ok (.invokevirtual 131, 3) := by decide +kernel
theorem dX4_shared_10 : decode cX4_shared 10 = .ok (.iload_n 1, 1) := by decide +kernel
theorem dX4_shared_11 : decode cX4_shared 11 = .ok (.iload_n 2, 1) := by decide +kernel
theorem dX4_shared_12 : decode cX4_shared 12 = .ok (.if_icmp .ne 13, 3) := by decide +kernel
theorem dX4_shared_15 : decode cX4_shared 15 = .ok (.new 142, 3) := by decide +kernel
theorem dX4_shared_18 : decode cX4_shared 18 = .ok (.dup, 1) := by decide +kernel
theorem dX4_shared_19 : decode cX4_shared 19 = .ok (.ldc 144, 2) := by decide +kernel
theorem dX4_shared_21 : decode cX4_shared 21 = .ok (.invokespecial 146, 3) := by decide +kernel
theorem dX4_shared_24 : decode cX4_shared 24 = .ok (.athrow, 1) := by decide +kernel
theorem dX4_shared_25 : decode cX4_shared 25 = .ok (.iload_n 3, 1) := by decide +kernel
theorem dX4_shared_26 : decode cX4_shared 26 = .ok (.ifCond .eq 15, 3) := by decide +kernel
theorem dX4_shared_29 : decode cX4_shared 29 = .ok (.aload_n 0, 1) := by decide +kernel
theorem dX4_shared_30 : decode cX4_shared 30 = .ok (.getfield 31, 3) := by decide +kernel
theorem dX4_shared_33 : decode cX4_shared 33 = .ok (.iload_n 1, 1) := by decide +kernel
theorem dX4_shared_34 : decode cX4_shared 34 = .ok (.iload_n 2, 1) := by decide +kernel
theorem dX4_shared_35 : decode cX4_shared 35 = .ok (.invokevirtual 139, 3) := by decide +kernel
theorem dX4_shared_38 : decode cX4_shared 38 = .ok (.goto 12, 3) := by decide +kernel
theorem dX4_shared_41 : decode cX4_shared 41 = .ok (.aload_n 0, 1) := by decide +kernel
theorem dX4_shared_42 : decode cX4_shared 42 = .ok (.getfield 31, 3) := by decide +kernel
theorem dX4_shared_45 : decode cX4_shared 45 = .ok (.iload_n 1, 1) := by decide +kernel
theorem dX4_shared_46 : decode cX4_shared 46 = .ok (.iload_n 2, 1) := by decide +kernel
theorem dX4_shared_47 : decode cX4_shared 47 = .ok (.invokevirtual 135, 3) := by decide +kernel
theorem dX4_shared_50 : decode cX4_shared 50 = .ok (.istore 4, 2) := by decide +kernel
theorem dX4_shared_52 : decode cX4_shared 52 = .ok (.iload 4, 2) := by decide +kernel
theorem dX4_shared_54 : decode cX4_shared 54 = .ok (.iconst (-1), 1) := by decide +kernel
theorem dX4_shared_55 : decode cX4_shared 55 = .ok (.if_icmp .ne 13, 3) := by decide +kernel
theorem dX4_shared_58 : decode cX4_shared 58 = .ok (.new 142, 3) := by decide +kernel
theorem dX4_shared_61 : decode cX4_shared 61 = .ok (.dup, 1) := by decide +kernel
theorem dX4_shared_62 : decode cX4_shared 62 = .ok (.ldc 147, 2) := by decide +kernel
theorem dX4_shared_64 : decode cX4_shared 64 = .ok (.invokespecial 146, 3) := by decide +kernel
theorem dX4_shared_67 : decode cX4_shared 67 = .ok (.athrow, 1) := by decide +kernel
theorem dX4_shared_68 : decode cX4_shared 68 = .ok (.iload 4, 2) := by decide +kernel
theorem dX4_shared_70 : decode cX4_shared 70 = .ok (.ireturn, 1) := by decide +kernel
set_option maxRecDepth 20000 in
theorem ggX4_bounds_X4_needOverlay : GoodIn wsX4_bounds wsX4_needOverlay := goodIn_ca (goodIn_r _ [6, 7, 8, 9, 32, 33, 34, 35, 36, 37, 38, 39] (by decide +kernel) (by decide +kernel)) (goodIn_sub (fun _ h => List.mem_cons_of_mem _ (List.mem_append_left _ (List.mem_append_right _ h))) (by decide +kernel))
set_option maxRecDepth 20000 in
theorem gX4_bounds_X4_needOverlay : GoodIn wsX4_bounds (wsV RX4 96 RX4 yX4_needOverlay wsX4_needOverlay) := goodIn_app (goodIn_of _ (by decide +kernel)) ggX4_bounds_X4_needOverlay
set_option maxRecDepth 20000 in
theorem ggX4_bounds_X4_needResult : GoodIn wsX4_bounds wsX4_needResult := goodIn_ca (goodIn_r _ [12, 13, 14] (by decide +kernel) (by decide +kernel)) (goodIn_sub (fun _ h => List.mem_cons_of_mem _ (List.mem_append_right _ h)) (by decide +kernel))
set_option maxRecDepth 20000 in
theorem gX4_bounds_X4_needResult : GoodIn wsX4_bounds (va_wsS RX4 149 yX4_needResult wsX4_needResult) := goodIn_app (goodIn_of _ (by decide +kernel)) ggX4_bounds_X4_needResult
set_option maxRecDepth 20000 in
theorem ggX4_bounds_X2_divides : GoodIn wsX4_bounds wsX2_divides := goodIn_r _ [19, 20, 21, 22, 18, 23, 24, 25, 26, 27, 28, 29, 30, 31, 40, 41] (by decide +kernel) (by decide +kernel)
set_option maxRecDepth 20000 in
theorem gX4_bounds_X2_divides : GoodIn wsX4_bounds (wsV RX4 152 RX2 yX2_divides wsX2_divides) := goodIn_app (goodIn_of _ (by decide +kernel)) ggX4_bounds_X2_divides
theorem dX4_bounds_0 : decode cX4_bounds 0 = .ok (.aload_n 0, 1) := by decide +kernel
theorem dX4_bounds_1 : decode cX4_bounds 1 = .ok (.invokevirtual 96, 3) := by decide +kernel
theorem dX4_bounds_4 : decode cX4_bounds 4 = .ok (.iload_n 1, 1) := by decide +kernel
theorem dX4_bounds_5 : decode cX4_bounds 5 = .ok (.invokestatic 149, 3) := by decide +kernel
theorem dX4_bounds_8 : decode cX4_bounds 8 = .ok (.iconst 0, 1) := by decide +kernel
theorem dX4_bounds_9 : decode cX4_bounds 9 = .ok (.istore_n 2, 1) := by decide +kernel
theorem dX4_bounds_10 : decode cX4_bounds 10 = .ok (.iconst 0, 1) := by decide +kernel
theorem dX4_bounds_11 : decode cX4_bounds 11 = .ok (.istore_n 3, 1) := by decide +kernel
theorem dX4_bounds_12 : decode cX4_bounds 12 = .ok (.iload_n 3, 1) := by decide +kernel
theorem dX4_bounds_13 : decode cX4_bounds 13 = .ok (.aload_n 0, 1) := by decide +kernel
theorem dX4_bounds_14 : decode cX4_bounds 14 = .ok (.getfield 38, 3) := by decide +kernel
theorem dX4_bounds_17 : decode cX4_bounds 17 = .ok (.getfield 95, 3) := by decide +kernel
theorem dX4_bounds_20 : decode cX4_bounds 20 = .ok (.if_icmp .ge 24, 3) := by decide +kernel
theorem dX4_bounds_23 : decode cX4_bounds 23 = .ok (.aload_n 0, 1) := by decide +kernel
theorem dX4_bounds_24 : decode cX4_bounds 24 = .ok (.getfield 38, 3) := by decide +kernel
theorem dX4_bounds_27 : decode cX4_bounds 27 = .ok (.iload_n 3, 1) := by decide +kernel
theorem dX4_bounds_28 : decode cX4_bounds 28 = .ok (.iload_n 1, 1) := by decide +kernel
theorem dX4_bounds_29 : decode cX4_bounds 29 = .ok (.invokevirtual 152, 3) := by decide +kernel
theorem dX4_bounds_32 : decode cX4_bounds 32 = .ok (.ifCond .eq 6, 3) := by decide +kernel
theorem dX4_bounds_35 : decode cX4_bounds 35 = .ok (.iinc 2 1, 3) := by decide +kernel
theorem dX4_bounds_38 : decode cX4_bounds 38 = .ok (.iinc 3 1, 3) := by decide +kernel
theorem dX4_bounds_41 : decode cX4_bounds 41 = .ok (.goto (-29), 3) := by decide +kernel
theorem dX4_bounds_44 : decode cX4_bounds 44 = .ok (.iload_n 2, 1) := by decide +kernel
theorem dX4_bounds_45 : decode cX4_bounds 45 = .ok (.ireturn, 1) := by decide +kernel
set_option maxRecDepth 20000 in
theorem ggX4_bound_X4_needOverlay : GoodIn wsX4_bound wsX4_needOverlay := goodIn_ca (goodIn_r _ [8, 9, 10, 11, 34, 35, 36, 37, 38, 39, 40, 41] (by decide +kernel) (by decide +kernel)) (goodIn_sub (fun _ h => List.mem_cons_of_mem _ (List.mem_append_left _ (List.mem_append_right _ h))) (by decide +kernel))
set_option maxRecDepth 20000 in
theorem gX4_bound_X4_needOverlay : GoodIn wsX4_bound (wsV RX4 96 RX4 yX4_needOverlay wsX4_needOverlay) := goodIn_app (goodIn_of _ (by decide +kernel)) ggX4_bound_X4_needOverlay
set_option maxRecDepth 20000 in
theorem ggX4_bound_X4_needResult : GoodIn wsX4_bound wsX4_needResult := goodIn_ca (goodIn_r _ [14, 15, 16] (by decide +kernel) (by decide +kernel)) (goodIn_sub (fun _ h => List.mem_cons_of_mem _ (List.mem_append_right _ h)) (by decide +kernel))
set_option maxRecDepth 20000 in
theorem gX4_bound_X4_needResult : GoodIn wsX4_bound (va_wsS RX4 149 yX4_needResult wsX4_needResult) := goodIn_app (goodIn_of _ (by decide +kernel)) ggX4_bound_X4_needResult
set_option maxRecDepth 20000 in
theorem ggX4_bound_X2_divides : GoodIn wsX4_bound wsX2_divides := goodIn_r _ [21, 22, 23, 24, 20, 25, 26, 27, 28, 29, 30, 31, 32, 33, 42, 43] (by decide +kernel) (by decide +kernel)
set_option maxRecDepth 20000 in
theorem gX4_bound_X2_divides : GoodIn wsX4_bound (wsV RX4 152 RX2 yX2_divides wsX2_divides) := goodIn_app (goodIn_of _ (by decide +kernel)) ggX4_bound_X2_divides
theorem dX4_bound_0 : decode cX4_bound 0 = .ok (.aload_n 0, 1) := by decide +kernel
theorem dX4_bound_1 : decode cX4_bound 1 = .ok (.invokevirtual 96, 3) := by decide +kernel
theorem dX4_bound_4 : decode cX4_bound 4 = .ok (.iload_n 1, 1) := by decide +kernel
theorem dX4_bound_5 : decode cX4_bound 5 = .ok (.invokestatic 149, 3) := by decide +kernel
theorem dX4_bound_8 : decode cX4_bound 8 = .ok (.iconst 0, 1) := by decide +kernel
theorem dX4_bound_9 : decode cX4_bound 9 = .ok (.istore_n 3, 1) := by decide +kernel
theorem dX4_bound_10 : decode cX4_bound 10 = .ok (.iconst 0, 1) := by decide +kernel
theorem dX4_bound_11 : decode cX4_bound 11 = .ok (.istore 4, 2) := by decide +kernel
theorem dX4_bound_13 : decode cX4_bound 13 = .ok (.iload 4, 2) := by decide +kernel
theorem dX4_bound_15 : decode cX4_bound 15 = .ok (.aload_n 0, 1) := by decide +kernel
theorem dX4_bound_16 : decode cX4_bound 16 = .ok (.getfield 38, 3) := by decide +kernel
theorem dX4_bound_19 : decode cX4_bound 19 = .ok (.getfield 95, 3) := by decide +kernel
theorem dX4_bound_22 : decode cX4_bound 22 = .ok (.if_icmp .ge 33, 3) := by decide +kernel
theorem dX4_bound_25 : decode cX4_bound 25 = .ok (.aload_n 0, 1) := by decide +kernel
theorem dX4_bound_26 : decode cX4_bound 26 = .ok (.getfield 38, 3) := by decide +kernel
theorem dX4_bound_29 : decode cX4_bound 29 = .ok (.iload 4, 2) := by decide +kernel
theorem dX4_bound_31 : decode cX4_bound 31 = .ok (.iload_n 1, 1) := by decide +kernel
theorem dX4_bound_32 : decode cX4_bound 32 = .ok (.invokevirtual 152, 3) := by decide +kernel
theorem dX4_bound_35 : decode cX4_bound 35 = .ok (.ifCond .eq 14, 3) := by decide +kernel
theorem dX4_bound_38 : decode cX4_bound 38 = .ok (.iload_n 3, 1) := by decide +kernel
theorem dX4_bound_39 : decode cX4_bound 39 = .ok (.iload_n 2, 1) := by decide +kernel
theorem dX4_bound_40 : decode cX4_bound 40 = .ok (.if_icmp .ne 6, 3) := by decide +kernel
theorem dX4_bound_43 : decode cX4_bound 43 = .ok (.iload 4, 2) := by decide +kernel
theorem dX4_bound_45 : decode cX4_bound 45 = .ok (.ireturn, 1) := by decide +kernel
theorem dX4_bound_46 : decode cX4_bound 46 = .ok (.iinc 3 1, 3) := by decide +kernel
theorem dX4_bound_49 : decode cX4_bound 49 = .ok (.iinc 4 1, 3) := by decide +kernel
theorem dX4_bound_52 : decode cX4_bound 52 = .ok (.goto (-39), 3) := by decide +kernel
theorem dX4_bound_55 : decode cX4_bound 55 = .ok (.new 142, 3) := by decide +kernel
theorem dX4_bound_58 : decode cX4_bound 58 = .ok (.dup, 1) := by decide +kernel
theorem dX4_bound_59 : decode cX4_bound 59 = .ok (.ldc 155, 2) := by decide +kernel
theorem dX4_bound_61 : decode cX4_bound 61 = .ok (.invokespecial 146, 3) := by decide +kernel
theorem dX4_bound_64 : decode cX4_bound 64 = .ok (.athrow, 1) := by decide +kernel
set_option maxRecDepth 20000 in
theorem ggX4_where_X4_needOverlay : GoodIn wsX4_where wsX4_needOverlay := goodIn_ca (goodIn_r _ [9, 10, 11, 12, 63, 64, 65, 66, 67, 68, 69, 70] (by decide +kernel) (by decide +kernel)) (goodIn_sub (fun _ h => List.mem_cons_of_mem _ (List.mem_append_right _ h)) (by decide +kernel))
set_option maxRecDepth 20000 in
theorem gX4_where_X4_needOverlay : GoodIn wsX4_where (wsV RX4 96 RX4 yX4_needOverlay wsX4_needOverlay) := goodIn_app (goodIn_of _ (by decide +kernel)) ggX4_where_X4_needOverlay
set_option maxRecDepth 20000 in
theorem ggX4_where_X4_needPolygon : GoodIn wsX4_where wsX4_needPolygon := goodIn_ca (goodIn_r _ [15, 1, 2] (by decide +kernel) (by decide +kernel)) (goodIn_sub (fun _ h => List.mem_cons_of_mem _ (List.mem_append_left _ (List.mem_append_right _ h))) (by decide +kernel))
set_option maxRecDepth 20000 in
theorem gX4_where_X4_needPolygon : GoodIn wsX4_where (va_wsS RX4 53 yX4_needPolygon wsX4_needPolygon) := goodIn_app (goodIn_of _ (by decide +kernel)) ggX4_where_X4_needPolygon
set_option maxRecDepth 20000 in
theorem ggX4_where_X4_isWithin : GoodIn wsX4_where wsX4_isWithin := goodIn_r _ [18] (by decide +kernel) (by decide +kernel)
set_option maxRecDepth 20000 in
theorem gX4_where_X4_isWithin : GoodIn wsX4_where (va_wsS RX4 57 yX4_isWithin wsX4_isWithin) := goodIn_app (goodIn_of _ (by decide +kernel)) ggX4_where_X4_isWithin
set_option maxRecDepth 20000 in
theorem ggX4_where_X0_through : GoodIn wsX4_where wsX0_through := goodIn_r _ [23, 24, 25, 26, 27, 22, 28, 29, 30, 31, 32, 33, 34, 35, 36, 37, 38, 39, 40, 41, 42, 43, 44, 45, 46, 47, 48, 49, 50, 51, 71, 72, 73, 74, 75, 76] (by decide +kernel) (by decide +kernel)
set_option maxRecDepth 20000 in
theorem gX4_where_X0_through : GoodIn wsX4_where (wsV RX4 163 RX0 yX0_through wsX0_through) := goodIn_app (goodIn_of _ (by decide +kernel)) ggX4_where_X0_through
set_option maxRecDepth 20000 in
theorem ggX4_where_X0_above : GoodIn wsX4_where wsX0_above := goodIn_r _ [55, 24, 38, 39, 40, 41, 42, 22, 43, 29, 44, 45, 46, 47, 48, 49, 50, 51, 30, 71, 72, 73, 74, 75, 76] (by decide +kernel) (by decide +kernel)
set_option maxRecDepth 20000 in
theorem gX4_where_X0_above : GoodIn wsX4_where (wsV RX4 167 RX0 yX0_above wsX0_above) := goodIn_app (goodIn_of _ (by decide +kernel)) ggX4_where_X0_above
set_option maxRecDepth 20000 in
theorem ggX4_where_J6_bitCount_0f7a4 : GoodIn wsX4_where wsJ6_bitCount_0f7a4 := goodIn_r _ [59, 60, 61, 62] (by decide +kernel) (by decide +kernel)
set_option maxRecDepth 20000 in
theorem gX4_where_J6_bitCount_0f7a4 : GoodIn wsX4_where (va_wsS RX4 170 yJ6_bitCount_0f7a4 wsJ6_bitCount_0f7a4) := goodIn_app (goodIn_of _ (by decide +kernel)) ggX4_where_J6_bitCount_0f7a4
theorem dX4_where_0 : decode cX4_where 0 = .ok (.aload_n 0, 1) := by decide +kernel
theorem dX4_where_1 : decode cX4_where 1 = .ok (.invokevirtual 96, 3) := by decide +kernel
theorem dX4_where_4 : decode cX4_where 4 = .ok (.iload_n 1, 1) := by decide +kernel
theorem dX4_where_5 : decode cX4_where 5 = .ok (.invokestatic 53, 3) := by decide +kernel
theorem dX4_where_8 : decode cX4_where 8 = .ok (.iload_n 2, 1) := by decide +kernel
theorem dX4_where_9 : decode cX4_where 9 = .ok (.ldc 157, 2) := by decide +kernel
theorem dX4_where_11 : decode cX4_where 11 = .ok (.invokestatic 57, 3) := by decide +kernel
theorem dX4_where_14 : decode cX4_where 14 = .ok (.ifCond .eq 12, 3) := by decide +kernel
theorem dX4_where_17 : decode cX4_where 17 = .ok (.iload_n 3, 1) := by decide +kernel
theorem dX4_where_18 : decode cX4_where 18 = .ok (.ldc 157, 2) := by decide +kernel
theorem dX4_where_20 : decode cX4_where 20 = .ok (.invokestatic 57, 3) := by decide +kernel
theorem dX4_where_23 : decode cX4_where 23 = .ok (.ifCond .ne 13, 3) := by decide +kernel
theorem dX4_where_26 : decode cX4_where 26 = .ok (.new 61, 3) := by decide +kernel
theorem dX4_where_29 : decode cX4_where 29 = .ok (.dup, 1) := by decide +kernel
theorem dX4_where_30 : decode cX4_where 30 = .ok (.ldc 63, 2) := by decide +kernel
theorem dX4_where_32 : decode cX4_where 32 = .ok (.invokespecial 65, 3) := by decide +kernel
theorem dX4_where_35 : decode cX4_where 35 = .ok (.athrow, 1) := by decide +kernel
theorem dX4_where_36 : decode cX4_where 36 = .ok (.iload 4, 2) := by decide +kernel
theorem dX4_where_38 : decode cX4_where 38 = .ok (.iconst 1, 1) := by decide +kernel
theorem dX4_where_39 : decode cX4_where 39 = .ok (.if_icmp .lt 11, 3) := by decide +kernel
theorem dX4_where_42 : decode cX4_where 42 = .ok (.iload 4, 2) := by decide +kernel
theorem dX4_where_44 : decode cX4_where 44 = .ok (.sipush 1000, 3) := by decide +kernel
theorem dX4_where_47 : decode cX4_where 47 = .ok (.if_icmp .le 13, 3) := by decide +kernel
theorem dX4_where_50 : decode cX4_where 50 = .ok (.new 61, 3) := by decide +kernel
theorem dX4_where_53 : decode cX4_where 53 = .ok (.dup, 1) := by decide +kernel
theorem dX4_where_54 : decode cX4_where 54 = .ok (.ldc 158, 2) := by decide +kernel
theorem dX4_where_56 : decode cX4_where 56 = .ok (.invokespecial 65, 3) := by decide +kernel
theorem dX4_where_59 : decode cX4_where 59 = .ok (.athrow, 1) := by decide +kernel
theorem dX4_where_60 : decode cX4_where 60 = .ok (.aload_n 0, 1) := by decide +kernel
theorem dX4_where_61 : decode cX4_where 61 = .ok (.getfield 24, 3) := by decide +kernel
theorem dX4_where_64 : decode cX4_where 64 = .ok (.getfield 160, 3) := by decide +kernel
theorem dX4_where_67 : decode cX4_where 67 = .ok (.iload_n 1, 1) := by decide +kernel
theorem dX4_where_68 : decode cX4_where 68 = .ok (.iaload, 1) := by decide +kernel
theorem dX4_where_69 : decode cX4_where 69 = .ok (.istore 5, 2) := by decide +kernel
theorem dX4_where_71 : decode cX4_where 71 = .ok (.aload_n 0, 1) := by decide +kernel
theorem dX4_where_72 : decode cX4_where 72 = .ok (.getfield 24, 3) := by decide +kernel
theorem dX4_where_75 : decode cX4_where 75 = .ok (.iload_n 2, 1) := by decide +kernel
theorem dX4_where_76 : decode cX4_where 76 = .ok (.i2l, 1) := by decide +kernel
theorem dX4_where_77 : decode cX4_where 77 = .ok (.iload_n 3, 1) := by decide +kernel
theorem dX4_where_78 : decode cX4_where 78 = .ok (.i2l, 1) := by decide +kernel
theorem dX4_where_79 : decode cX4_where 79 = .ok (.iload 4, 2) := by decide +kernel
theorem dX4_where_81 : decode cX4_where 81 = .ok (.i2l, 1) := by decide +kernel
theorem dX4_where_82 : decode cX4_where 82 = .ok (.invokevirtual 163, 3) := by decide +kernel
theorem dX4_where_85 : decode cX4_where 85 = .ok (.iload 5, 2) := by decide +kernel
theorem dX4_where_87 : decode cX4_where 87 = .ok (.iand, 1) := by decide +kernel
theorem dX4_where_88 : decode cX4_where 88 = .ok (.ifCond .eq 5, 3) := by decide +kernel
theorem dX4_where_91 : decode cX4_where 91 = .ok (.iconst 2, 1) := by decide +kernel
theorem dX4_where_92 : decode cX4_where 92 = .ok (.ireturn, 1) := by decide +kernel
theorem dX4_where_93 : decode cX4_where 93 = .ok (.aload_n 0, 1) := by decide +kernel
theorem dX4_where_94 : decode cX4_where 94 = .ok (.getfield 24, 3) := by decide +kernel
theorem dX4_where_97 : decode cX4_where 97 = .ok (.iload_n 2, 1) := by decide +kernel
theorem dX4_where_98 : decode cX4_where 98 = .ok (.i2l, 1) := by decide +kernel
theorem dX4_where_99 : decode cX4_where 99 = .ok (.iload_n 3, 1) := by decide +kernel
theorem dX4_where_100 : decode cX4_where 100 = .ok (.i2l, 1) := by decide +kernel
theorem dX4_where_101 : decode cX4_where 101 = .ok (.iload 4, 2) := by decide +kernel
theorem dX4_where_103 : decode cX4_where 103 = .ok (.i2l, 1) := by decide +kernel
theorem dX4_where_104 : decode cX4_where 104 = .ok (.invokevirtual 167, 3) := by decide +kernel
theorem dX4_where_107 : decode cX4_where 107 = .ok (.iload 5, 2) := by decide +kernel
theorem dX4_where_109 : decode cX4_where 109 = .ok (.iand, 1) := by decide +kernel
theorem dX4_where_110 : decode cX4_where 110 = .ok (.invokestatic 170, 3) := by decide +kernel
theorem dX4_where_113 : decode cX4_where 113 = .ok (.iconst 1, 1) := by decide +kernel
theorem dX4_where_114 : decode cX4_where 114 = .ok (.iand, 1) := by decide +kernel
theorem dX4_where_115 : decode cX4_where 115 = .ok (.ireturn, 1) := by decide +kernel
set_option maxRecDepth 20000 in
theorem ggX4_area_X4_needOverlay : GoodIn wsX4_area wsX4_needOverlay := goodIn_ca (goodIn_r _ [8, 9, 10, 11, 43, 44, 45, 46, 47, 48, 49, 50] (by decide +kernel) (by decide +kernel)) (goodIn_sub (fun _ h => List.mem_cons_of_mem _ (List.mem_append_left _ (List.mem_append_right _ h))) (by decide +kernel))
set_option maxRecDepth 20000 in
theorem gX4_area_X4_needOverlay : GoodIn wsX4_area (wsV RX4 96 RX4 yX4_needOverlay wsX4_needOverlay) := goodIn_app (goodIn_of _ (by decide +kernel)) ggX4_area_X4_needOverlay
set_option maxRecDepth 20000 in
theorem ggX4_area_X4_needResult : GoodIn wsX4_area wsX4_needResult := goodIn_ca (goodIn_r _ [14, 15, 16] (by decide +kernel) (by decide +kernel)) (goodIn_sub (fun _ h => List.mem_cons_of_mem _ (List.mem_append_right _ h)) (by decide +kernel))
set_option maxRecDepth 20000 in
theorem gX4_area_X4_needResult : GoodIn wsX4_area (va_wsS RX4 149 yX4_needResult wsX4_needResult) := goodIn_app (goodIn_of _ (by decide +kernel)) ggX4_area_X4_needResult
set_option maxRecDepth 20000 in
theorem ggX4_area_X2_divides : GoodIn wsX4_area wsX2_divides := goodIn_r _ [21, 22, 23, 24, 20, 25, 26, 27, 28, 29, 30, 31, 32, 33, 51, 52] (by decide +kernel) (by decide +kernel)
set_option maxRecDepth 20000 in
theorem gX4_area_X2_divides : GoodIn wsX4_area (wsV RX4 152 RX2 yX2_divides wsX2_divides) := goodIn_app (goodIn_of _ (by decide +kernel)) ggX4_area_X2_divides
set_option maxRecDepth 20000 in
theorem ggX4_area_X2_isLeftInside : GoodIn wsX4_area wsX2_isLeftInside := goodIn_r _ [25, 26, 27, 28, 20, 29, 51, 52] (by decide +kernel) (by decide +kernel)
set_option maxRecDepth 20000 in
theorem gX4_area_X2_isLeftInside : GoodIn wsX4_area (wsV RX4 176 RX2 yX2_isLeftInside wsX2_isLeftInside) := goodIn_app (goodIn_of _ (by decide +kernel)) ggX4_area_X2_isLeftInside
set_option maxRecDepth 20000 in
theorem ggX4_area_X3_doubleArea : GoodIn wsX4_area wsX3_doubleArea := goodIn_r _ [39, 40, 41, 42, 53, 54, 55, 56, 57] (by decide +kernel) (by decide +kernel)
set_option maxRecDepth 20000 in
theorem gX4_area_X3_doubleArea : GoodIn wsX4_area (wsV RX4 181 RX3 yX3_doubleArea wsX3_doubleArea) := goodIn_app (goodIn_of _ (by decide +kernel)) ggX4_area_X3_doubleArea
theorem dX4_area_0 : decode cX4_area 0 = .ok (.aload_n 0, 1) := by decide +kernel
theorem dX4_area_1 : decode cX4_area 1 = .ok (.invokevirtual 96, 3) := by decide +kernel
theorem dX4_area_4 : decode cX4_area 4 = .ok (.iload_n 1, 1) := by decide +kernel
theorem dX4_area_5 : decode cX4_area 5 = .ok (.invokestatic 149, 3) := by decide +kernel
theorem dX4_area_8 : decode cX4_area 8 = .ok (.dconst 0, 1) := by decide +kernel
theorem dX4_area_9 : decode cX4_area 9 = .ok (.dstore_n 2, 1) := by decide +kernel
theorem dX4_area_10 : decode cX4_area 10 = .ok (.iconst 0, 1) := by decide +kernel
theorem dX4_area_11 : decode cX4_area 11 = .ok (.istore 4, 2) := by decide +kernel
theorem dX4_area_13 : decode cX4_area 13 = .ok (.iload 4, 2) := by decide +kernel
theorem dX4_area_15 : decode cX4_area 15 = .ok (.aload_n 0, 1) := by decide +kernel
theorem dX4_area_16 : decode cX4_area 16 = .ok (.getfield 38, 3) := by decide +kernel
theorem dX4_area_19 : decode cX4_area 19 = .ok (.getfield 95, 3) := by decide +kernel
theorem dX4_area_22 : decode cX4_area 22 = .ok (.if_icmp .ge 81, 3) := by decide +kernel
theorem dX4_area_25 : decode cX4_area 25 = .ok (.aload_n 0, 1) := by decide +kernel
theorem dX4_area_26 : decode cX4_area 26 = .ok (.getfield 38, 3) := by decide +kernel
theorem dX4_area_29 : decode cX4_area 29 = .ok (.iload 4, 2) := by decide +kernel
theorem dX4_area_31 : decode cX4_area 31 = .ok (.iload_n 1, 1) := by decide +kernel
theorem dX4_area_32 : decode cX4_area 32 = .ok (.invokevirtual 152, 3) := by decide +kernel
theorem dX4_area_35 : decode cX4_area 35 = .ok (.ifCond .eq 62, 3) := by decide +kernel
theorem dX4_area_38 : decode cX4_area 38 = .ok (.aload_n 0, 1) := by decide +kernel
theorem dX4_area_39 : decode cX4_area 39 = .ok (.getfield 38, 3) := by decide +kernel
theorem dX4_area_42 : decode cX4_area 42 = .ok (.iload 4, 2) := by decide +kernel
theorem dX4_area_44 : decode cX4_area 44 = .ok (.iload_n 1, 1) := by decide +kernel
theorem dX4_area_45 : decode cX4_area 45 = .ok (.invokevirtual 176, 3) := by decide +kernel
theorem dX4_area_48 : decode cX4_area 48 = .ok (.ifCond .eq 7, 3) := by decide +kernel
theorem dX4_area_51 : decode cX4_area 51 = .ok (.dconst 1, 1) := by decide +kernel
theorem dX4_area_52 : decode cX4_area 52 = .ok (.goto 6, 3) := by decide +kernel
theorem dX4_area_55 : decode cX4_area 55 = .ok (.ldc2_w 179, 3) := by decide +kernel
theorem dX4_area_58 : decode cX4_area 58 = .ok (.dstore 5, 2) := by decide +kernel
theorem dX4_area_60 : decode cX4_area 60 = .ok (.dload_n 2, 1) := by decide +kernel
theorem dX4_area_61 : decode cX4_area 61 = .ok (.dload 5, 2) := by decide +kernel
theorem dX4_area_63 : decode cX4_area 63 = .ok (.aload_n 0, 1) := by decide +kernel
theorem dX4_area_64 : decode cX4_area 64 = .ok (.getfield 31, 3) := by decide +kernel
theorem dX4_area_67 : decode cX4_area 67 = .ok (.aload_n 0, 1) := by decide +kernel
theorem dX4_area_68 : decode cX4_area 68 = .ok (.getfield 38, 3) := by decide +kernel
theorem dX4_area_71 : decode cX4_area 71 = .ok (.getfield 128, 3) := by decide +kernel
theorem dX4_area_74 : decode cX4_area 74 = .ok (.iconst 0, 1) := by decide +kernel
theorem dX4_area_75 : decode cX4_area 75 = .ok (.aaload, 1) := by decide +kernel
theorem dX4_area_76 : decode cX4_area 76 = .ok (.iload 4, 2) := by decide +kernel
theorem dX4_area_78 : decode cX4_area 78 = .ok (.iaload, 1) := by decide +kernel
theorem dX4_area_79 : decode cX4_area 79 = .ok (.aload_n 0, 1) := by decide +kernel
theorem dX4_area_80 : decode cX4_area 80 = .ok (.getfield 38, 3) := by decide +kernel
theorem dX4_area_83 : decode cX4_area 83 = .ok (.getfield 128, 3) := by decide +kernel
theorem dX4_area_86 : decode cX4_area 86 = .ok (.iconst 1, 1) := by decide +kernel
theorem dX4_area_87 : decode cX4_area 87 = .ok (.aaload, 1) := by decide +kernel
theorem dX4_area_88 : decode cX4_area 88 = .ok (.iload 4, 2) := by decide +kernel
theorem dX4_area_90 : decode cX4_area 90 = .ok (.iaload, 1) := by decide +kernel
theorem dX4_area_91 : decode cX4_area 91 = .ok (.invokevirtual 181, 3) := by decide +kernel
theorem dX4_area_94 : decode cX4_area 94 = .ok (.dmul, 1) := by decide +kernel
theorem dX4_area_95 : decode cX4_area 95 = .ok (.dadd, 1) := by decide +kernel
theorem dX4_area_96 : decode cX4_area 96 = .ok (.dstore_n 2, 1) := by decide +kernel
theorem dX4_area_97 : decode cX4_area 97 = .ok (.iinc 4 1, 3) := by decide +kernel
theorem dX4_area_100 : decode cX4_area 100 = .ok (.goto (-87), 3) := by decide +kernel
theorem dX4_area_103 : decode cX4_area 103 = .ok (.dload_n 2, 1) := by decide +kernel
theorem dX4_area_104 : decode cX4_area 104 = .ok (.dreturn, 1) := by decide +kernel
theorem dX4_needOverlay_0 : decode cX4_needOverlay 0 = .ok (.aload_n 0, 1) := by decide +kernel
theorem dX4_needOverlay_1 : decode cX4_needOverlay 1 = .ok (.getfield 49, 3) := by decide +kernel
theorem dX4_needOverlay_4 : decode cX4_needOverlay 4 = .ok (.ifCond .ne 13, 3) := by decide +kernel
theorem dX4_needOverlay_7 : decode cX4_needOverlay 7 = .ok (.new 68, 3) := by decide +kernel
theorem dX4_needOverlay_10 : decode cX4_needOverlay 10 = .ok (.dup, 1) := by decide +kernel
theorem dX4_needOverlay_11 : decode cX4_needOverlay 11 = .ok (.ldc 185, 2) := by decide +kernel
theorem dX4_needOverlay_13 : decode cX4_needOverlay 13 = .ok (.invokespecial 72, 3) := by decide +kernel
theorem dX4_needOverlay_16 : decode cX4_needOverlay 16 = .ok (.athrow, 1) := by decide +kernel
theorem dX4_needOverlay_17 : decode cX4_needOverlay 17 = .ok (.return_, 1) := by decide +kernel
theorem dX4_needPolygon_0 : decode cX4_needPolygon 0 = .ok (.iload_n 0, 1) := by decide +kernel
theorem dX4_needPolygon_1 : decode cX4_needPolygon 1 = .ok (.ifCond .lt 8, 3) := by decide +kernel
theorem dX4_needPolygon_4 : decode cX4_needPolygon 4 = .ok (.iload_n 0, 1) := by decide +kernel
theorem dX4_needPolygon_5 : decode cX4_needPolygon 5 = .ok (.iconst 2, 1) := by decide +kernel
theorem dX4_needPolygon_6 : decode cX4_needPolygon 6 = .ok (.if_icmp .lt 13, 3) := by decide +kernel
theorem dX4_needPolygon_9 : decode cX4_needPolygon 9 = .ok (.new 61, 3) := by decide +kernel
theorem dX4_needPolygon_12 : decode cX4_needPolygon 12 = .ok (.dup, 1) := by decide +kernel
theorem dX4_needPolygon_13 : decode cX4_needPolygon 13 = .ok (.ldc 187, 2) := by decide +kernel
theorem dX4_needPolygon_15 : decode cX4_needPolygon 15 = .ok (.invokespecial 65, 3) := by decide +kernel
theorem dX4_needPolygon_18 : decode cX4_needPolygon 18 = .ok (.athrow, 1) := by decide +kernel
theorem dX4_needPolygon_19 : decode cX4_needPolygon 19 = .ok (.return_, 1) := by decide +kernel
theorem dX4_needResult_0 : decode cX4_needResult 0 = .ok (.iload_n 0, 1) := by decide +kernel
theorem dX4_needResult_1 : decode cX4_needResult 1 = .ok (.ifCond .lt 8, 3) := by decide +kernel
theorem dX4_needResult_4 : decode cX4_needResult 4 = .ok (.iload_n 0, 1) := by decide +kernel
theorem dX4_needResult_5 : decode cX4_needResult 5 = .ok (.iconst 4, 1) := by decide +kernel
theorem dX4_needResult_6 : decode cX4_needResult 6 = .ok (.if_icmp .lt 13, 3) := by decide +kernel
theorem dX4_needResult_9 : decode cX4_needResult 9 = .ok (.new 61, 3) := by decide +kernel
theorem dX4_needResult_12 : decode cX4_needResult 12 = .ok (.dup, 1) := by decide +kernel
theorem dX4_needResult_13 : decode cX4_needResult 13 = .ok (.ldc 189, 2) := by decide +kernel
theorem dX4_needResult_15 : decode cX4_needResult 15 = .ok (.invokespecial 65, 3) := by decide +kernel
theorem dX4_needResult_18 : decode cX4_needResult 18 = .ok (.athrow, 1) := by decide +kernel
theorem dX4_needResult_19 : decode cX4_needResult 19 = .ok (.return_, 1) := by decide +kernel
theorem dX4_needEdges_0 : decode cX4_needEdges 0 = .ok (.iload_n 1, 1) := by decide +kernel
theorem dX4_needEdges_1 : decode cX4_needEdges 1 = .ok (.ifCond .lt 29, 3) := by decide +kernel
theorem dX4_needEdges_4 : decode cX4_needEdges 4 = .ok (.iload_n 1, 1) := by decide +kernel
theorem dX4_needEdges_5 : decode cX4_needEdges 5 = .ok (.aload_n 0, 1) := by decide +kernel
theorem dX4_needEdges_6 : decode cX4_needEdges 6 = .ok (.getfield 24, 3) := by decide +kernel
theorem dX4_needEdges_9 : decode cX4_needEdges 9 = .ok (.getfield 87, 3) := by decide +kernel
theorem dX4_needEdges_12 : decode cX4_needEdges 12 = .ok (.if_icmp .ge 18, 3) := by decide +kernel
theorem dX4_needEdges_15 : decode cX4_needEdges 15 = .ok (.iload_n 2, 1) := by decide +kernel
theorem dX4_needEdges_16 : decode cX4_needEdges 16 = .ok (.ifCond .lt 14, 3) := by decide +kernel
theorem dX4_needEdges_19 : decode cX4_needEdges 19 = .ok (.iload_n 2, 1) := by decide +kernel
theorem dX4_needEdges_20 : decode cX4_needEdges 20 = .ok (.aload_n 0, 1) := by decide +kernel
theorem dX4_needEdges_21 : decode cX4_needEdges 21 = .ok (.getfield 24, 3) := by decide +kernel
theorem dX4_needEdges_24 : decode cX4_needEdges 24 = .ok (.getfield 87, 3) := by decide +kernel
theorem dX4_needEdges_27 : decode cX4_needEdges 27 = .ok (.if_icmp .lt 13, 3) := by decide +kernel
theorem dX4_needEdges_30 : decode cX4_needEdges 30 = .ok (.new 108, 3) := by decide +kernel
theorem dX4_needEdges_33 : decode cX4_needEdges 33 = .ok (.dup, 1) := by decide +kernel
theorem dX4_needEdges_34 : decode cX4_needEdges 34 = .ok (.ldc 191, 2) := by decide +kernel
theorem dX4_needEdges_36 : decode cX4_needEdges 36 = .ok (.invokespecial 112, 3) := by decide +kernel
theorem dX4_needEdges_39 : decode cX4_needEdges 39 = .ok (.athrow, 1) := by decide +kernel
theorem dX4_needEdges_40 : decode cX4_needEdges 40 = .ok (.return_, 1) := by decide +kernel
theorem dX4_isWithin_0 : decode cX4_isWithin 0 = .ok (.iload_n 0, 1) := by decide +kernel
theorem dX4_isWithin_1 : decode cX4_isWithin 1 = .ok (.iload_n 1, 1) := by decide +kernel
theorem dX4_isWithin_2 : decode cX4_isWithin 2 = .ok (.ineg, 1) := by decide +kernel
theorem dX4_isWithin_3 : decode cX4_isWithin 3 = .ok (.if_icmp .lt 12, 3) := by decide +kernel
theorem dX4_isWithin_6 : decode cX4_isWithin 6 = .ok (.iload_n 0, 1) := by decide +kernel
theorem dX4_isWithin_7 : decode cX4_isWithin 7 = .ok (.iload_n 1, 1) := by decide +kernel
theorem dX4_isWithin_8 : decode cX4_isWithin 8 = .ok (.if_icmp .gt 7, 3) := by decide +kernel
theorem dX4_isWithin_11 : decode cX4_isWithin 11 = .ok (.iconst 1, 1) := by decide +kernel
theorem dX4_isWithin_12 : decode cX4_isWithin 12 = .ok (.goto 4, 3) := by decide +kernel
theorem dX4_isWithin_15 : decode cX4_isWithin 15 = .ok (.iconst 0, 1) := by decide +kernel
theorem dX4_isWithin_16 : decode cX4_isWithin 16 = .ok (.ireturn, 1) := by decide +kernel
set_option maxRecDepth 20000 in
theorem ggX4_takeEdges_X0_add : GoodIn wsX4_takeEdges wsX0_add := goodIn_r _ [9, 10, 11, 12, 13, 14, 15, 24, 25, 26, 27, 28, 29] (by decide +kernel) (by decide +kernel)
set_option maxRecDepth 20000 in
theorem gX4_takeEdges_X0_add : GoodIn wsX4_takeEdges (wsV RX4 193 RX0 yX0_add wsX0_add) := goodIn_app (goodIn_of _ (by decide +kernel)) ggX4_takeEdges_X0_add
theorem dX4_takeEdges_0 : decode cX4_takeEdges 0 = .ok (.aload_n 0, 1) := by decide +kernel
theorem dX4_takeEdges_1 : decode cX4_takeEdges 1 = .ok (.getfield 17, 3) := by decide +kernel
theorem dX4_takeEdges_4 : decode cX4_takeEdges 4 = .ok (.iload_n 1, 1) := by decide +kernel
theorem dX4_takeEdges_5 : decode cX4_takeEdges 5 = .ok (.iaload, 1) := by decide +kernel
theorem dX4_takeEdges_6 : decode cX4_takeEdges 6 = .ok (.istore_n 2, 1) := by decide +kernel
theorem dX4_takeEdges_7 : decode cX4_takeEdges 7 = .ok (.aload_n 0, 1) := by decide +kernel
theorem dX4_takeEdges_8 : decode cX4_takeEdges 8 = .ok (.getfield 11, 3) := by decide +kernel
theorem dX4_takeEdges_11 : decode cX4_takeEdges 11 = .ok (.iload_n 1, 1) := by decide +kernel
theorem dX4_takeEdges_12 : decode cX4_takeEdges 12 = .ok (.aaload, 1) := by decide +kernel
theorem dX4_takeEdges_13 : decode cX4_takeEdges 13 = .ok (.astore_n 3, 1) := by decide +kernel
theorem dX4_takeEdges_14 : decode cX4_takeEdges 14 = .ok (.aload_n 0, 1) := by decide +kernel
theorem dX4_takeEdges_15 : decode cX4_takeEdges 15 = .ok (.getfield 14, 3) := by decide +kernel
theorem dX4_takeEdges_18 : decode cX4_takeEdges 18 = .ok (.iload_n 1, 1) := by decide +kernel
theorem dX4_takeEdges_19 : decode cX4_takeEdges 19 = .ok (.aaload, 1) := by decide +kernel
theorem dX4_takeEdges_20 : decode cX4_takeEdges 20 = .ok (.astore 4, 2) := by decide +kernel
theorem dX4_takeEdges_22 : decode cX4_takeEdges 22 = .ok (.iconst 0, 1) := by decide +kernel
theorem dX4_takeEdges_23 : decode cX4_takeEdges 23 = .ok (.istore 5, 2) := by decide +kernel
theorem dX4_takeEdges_25 : decode cX4_takeEdges 25 = .ok (.iload 5, 2) := by decide +kernel
theorem dX4_takeEdges_27 : decode cX4_takeEdges 27 = .ok (.iload_n 2, 1) := by decide +kernel
theorem dX4_takeEdges_28 : decode cX4_takeEdges 28 = .ok (.if_icmp .ge 53, 3) := by decide +kernel
theorem dX4_takeEdges_31 : decode cX4_takeEdges 31 = .ok (.iload 5, 2) := by decide +kernel
theorem dX4_takeEdges_33 : decode cX4_takeEdges 33 = .ok (.iconst 1, 1) := by decide +kernel
theorem dX4_takeEdges_34 : decode cX4_takeEdges 34 = .ok (.iadd, 1) := by decide +kernel
theorem dX4_takeEdges_35 : decode cX4_takeEdges 35 = .ok (.iload_n 2, 1) := by decide +kernel
theorem dX4_takeEdges_36 : decode cX4_takeEdges 36 = .ok (.if_icmp .ge 10, 3) := by decide +kernel
theorem dX4_takeEdges_39 : decode cX4_takeEdges 39 = .ok (.iload 5, 2) := by decide +kernel
theorem dX4_takeEdges_41 : decode cX4_takeEdges 41 = .ok (.iconst 1, 1) := by decide +kernel
theorem dX4_takeEdges_42 : decode cX4_takeEdges 42 = .ok (.iadd, 1) := by decide +kernel
theorem dX4_takeEdges_43 : decode cX4_takeEdges 43 = .ok (.goto 4, 3) := by decide +kernel
theorem dX4_takeEdges_46 : decode cX4_takeEdges 46 = .ok (.iconst 0, 1) := by decide +kernel
theorem dX4_takeEdges_47 : decode cX4_takeEdges 47 = .ok (.istore 6, 2) := by decide +kernel
theorem dX4_takeEdges_49 : decode cX4_takeEdges 49 = .ok (.aload_n 0, 1) := by decide +kernel
theorem dX4_takeEdges_50 : decode cX4_takeEdges 50 = .ok (.getfield 24, 3) := by decide +kernel
theorem dX4_takeEdges_53 : decode cX4_takeEdges 53 = .ok (.iload_n 1, 1) := by decide +kernel
theorem dX4_takeEdges_54 : decode cX4_takeEdges 54 = .ok (.aload_n 3, 1) := by decide +kernel
theorem dX4_takeEdges_55 : decode cX4_takeEdges 55 = .ok (.iload 5, 2) := by decide +kernel
theorem dX4_takeEdges_57 : decode cX4_takeEdges 57 = .ok (.iaload, 1) := by decide +kernel
theorem dX4_takeEdges_58 : decode cX4_takeEdges 58 = .ok (.aload 4, 2) := by decide +kernel
theorem dX4_takeEdges_60 : decode cX4_takeEdges 60 = .ok (.iload 5, 2) := by decide +kernel
theorem dX4_takeEdges_62 : decode cX4_takeEdges 62 = .ok (.iaload, 1) := by decide +kernel
theorem dX4_takeEdges_63 : decode cX4_takeEdges 63 = .ok (.aload_n 3, 1) := by decide +kernel
theorem dX4_takeEdges_64 : decode cX4_takeEdges 64 = .ok (.iload 6, 2) := by decide +kernel
theorem dX4_takeEdges_66 : decode cX4_takeEdges 66 = .ok (.iaload, 1) := by decide +kernel
theorem dX4_takeEdges_67 : decode cX4_takeEdges 67 = .ok (.aload 4, 2) := by decide +kernel
theorem dX4_takeEdges_69 : decode cX4_takeEdges 69 = .ok (.iload 6, 2) := by decide +kernel
theorem dX4_takeEdges_71 : decode cX4_takeEdges 71 = .ok (.iaload, 1) := by decide +kernel
theorem dX4_takeEdges_72 : decode cX4_takeEdges 72 = .ok (.invokevirtual 193, 3) := by decide +kernel
theorem dX4_takeEdges_75 : decode cX4_takeEdges 75 = .ok (.iinc 5 1, 3) := by decide +kernel
theorem dX4_takeEdges_78 : decode cX4_takeEdges 78 = .ok (.goto (-53), 3) := by decide +kernel
theorem dX4_takeEdges_81 : decode cX4_takeEdges 81 = .ok (.return_, 1) := by decide +kernel
