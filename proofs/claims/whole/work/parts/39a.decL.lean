set_option maxRecDepth 20000 in
theorem ggL_vertex_X4_vertex : GoodIn wsL_vertex wsX4_vertex := goodIn_ca (goodIn_ca (goodIn_r _ [7, 8, 9, 10, 11, 12, 13, 14, 15, 16, 6, 17, 18, 19, 20, 21, 22, 23, 24, 25, 26, 27, 28] (by decide +kernel) (by decide +kernel)) (goodIn_sub (fun _ h => List.mem_cons_of_mem _ (List.mem_append_left _ (List.mem_append_right _ h))) (by decide +kernel))) (goodIn_sub (fun _ h => List.mem_cons_of_mem _ (List.mem_append_right _ h)) (by decide +kernel))
set_option maxRecDepth 20000 in
theorem gL_vertex_X4_vertex : GoodIn wsL_vertex (wsV RL 7 RX4 yX4_vertex wsX4_vertex) := goodIn_app (goodIn_of _ (by decide +kernel)) ggL_vertex_X4_vertex
theorem dL_vertex_0 : decode cL_vertex 0 = .ok (.aload 4, 2) := by decide +kernel
theorem dL_vertex_2 : decode cL_vertex 2 = .ok (.iconst 0, 1) := by decide +kernel
theorem dL_vertex_3 : decode cL_vertex 3 = .ok (.aload_n 0, 1) := by decide +kernel
theorem dL_vertex_4 : decode cL_vertex 4 = .ok (.iload_n 1, 1) := by decide +kernel
theorem dL_vertex_5 : decode cL_vertex 5 = .ok (.iload_n 2, 1) := by decide +kernel
theorem dL_vertex_6 : decode cL_vertex 6 = .ok (.iload_n 3, 1) := by decide +kernel
theorem dL_vertex_7 : decode cL_vertex 7 = .ok (.invokevirtual 7, 3) := by decide +kernel
theorem dL_vertex_10 : decode cL_vertex 10 = .ok (.i2l, 1) := by decide +kernel
theorem dL_vertex_11 : decode cL_vertex 11 = .ok (.lastore, 1) := by decide +kernel
theorem dL_vertex_12 : decode cL_vertex 12 = .ok (.goto 11, 3) := by decide +kernel
theorem dL_vertex_15 : decode cL_vertex 15 = .ok (.astore 5, 2) := by decide +kernel
theorem dL_vertex_17 : decode cL_vertex 17 = .ok (.iconst 1, 1) := by decide +kernel
theorem dL_vertex_18 : decode cL_vertex 18 = .ok (.ireturn, 1) := by decide +kernel
theorem dL_vertex_19 : decode cL_vertex 19 = .ok (.astore 5, 2) := by decide +kernel
theorem dL_vertex_21 : decode cL_vertex 21 = .ok (.iconst 2, 1) := by decide +kernel
theorem dL_vertex_22 : decode cL_vertex 22 = .ok (.ireturn, 1) := by decide +kernel
theorem dL_vertex_23 : decode cL_vertex 23 = .ok (.iconst 0, 1) := by decide +kernel
theorem dL_vertex_24 : decode cL_vertex 24 = .ok (.ireturn, 1) := by decide +kernel
set_option maxRecDepth 20000 in
theorem ggL_clear_X4_clear : GoodIn wsL_clear wsX4_clear := goodIn_ca (goodIn_r _ [6, 7, 8, 9, 5, 10, 11, 12, 13, 14, 15, 16, 17, 18, 19, 20] (by decide +kernel) (by decide +kernel)) (goodIn_sub (fun _ h => List.mem_cons_of_mem _ (List.mem_append_right _ h)) (by decide +kernel))
set_option maxRecDepth 20000 in
theorem gL_clear_X4_clear : GoodIn wsL_clear (wsV RL 17 RX4 yX4_clear wsX4_clear) := goodIn_app (goodIn_of _ (by decide +kernel)) ggL_clear_X4_clear
theorem dL_clear_0 : decode cL_clear 0 = .ok (.aload_n 2, 1) := by decide +kernel
theorem dL_clear_1 : decode cL_clear 1 = .ok (.iconst 0, 1) := by decide +kernel
theorem dL_clear_2 : decode cL_clear 2 = .ok (.aload_n 0, 1) := by decide +kernel
theorem dL_clear_3 : decode cL_clear 3 = .ok (.iload_n 1, 1) := by decide +kernel
theorem dL_clear_4 : decode cL_clear 4 = .ok (.invokevirtual 17, 3) := by decide +kernel
theorem dL_clear_7 : decode cL_clear 7 = .ok (.i2l, 1) := by decide +kernel
theorem dL_clear_8 : decode cL_clear 8 = .ok (.lastore, 1) := by decide +kernel
theorem dL_clear_9 : decode cL_clear 9 = .ok (.goto 6, 3) := by decide +kernel
theorem dL_clear_12 : decode cL_clear 12 = .ok (.astore_n 3, 1) := by decide +kernel
theorem dL_clear_13 : decode cL_clear 13 = .ok (.iconst 1, 1) := by decide +kernel
theorem dL_clear_14 : decode cL_clear 14 = .ok (.ireturn, 1) := by decide +kernel
theorem dL_clear_15 : decode cL_clear 15 = .ok (.iconst 0, 1) := by decide +kernel
theorem dL_clear_16 : decode cL_clear 16 = .ok (.ireturn, 1) := by decide +kernel
set_option maxRecDepth 20000 in
theorem ggL_size_X4_size : GoodIn wsL_size wsX4_size := goodIn_ca (goodIn_ca (goodIn_r _ [7, 8, 9, 10, 11, 12, 13, 14, 15, 16, 6, 17, 18, 19, 20, 21, 22, 23, 24, 25, 26, 27, 28, 29, 30, 31, 32, 33, 34, 35, 36, 37, 38, 39, 40, 41, 42, 43, 44] (by decide +kernel) (by decide +kernel)) (goodIn_sub (fun _ h => List.mem_cons_of_mem _ (List.mem_append_left _ (List.mem_append_right _ h))) (by decide +kernel))) (goodIn_sub (fun _ h => List.mem_cons_of_mem _ (List.mem_append_right _ h)) (by decide +kernel))
set_option maxRecDepth 20000 in
theorem gL_size_X4_size : GoodIn wsL_size (wsV RL 21 RX4 yX4_size wsX4_size) := goodIn_app (goodIn_of _ (by decide +kernel)) ggL_size_X4_size
theorem dL_size_0 : decode cL_size 0 = .ok (.aload_n 2, 1) := by decide +kernel
theorem dL_size_1 : decode cL_size 1 = .ok (.iconst 0, 1) := by decide +kernel
theorem dL_size_2 : decode cL_size 2 = .ok (.aload_n 0, 1) := by decide +kernel
theorem dL_size_3 : decode cL_size 3 = .ok (.iload_n 1, 1) := by decide +kernel
theorem dL_size_4 : decode cL_size 4 = .ok (.invokevirtual 21, 3) := by decide +kernel
theorem dL_size_7 : decode cL_size 7 = .ok (.i2l, 1) := by decide +kernel
theorem dL_size_8 : decode cL_size 8 = .ok (.lastore, 1) := by decide +kernel
theorem dL_size_9 : decode cL_size 9 = .ok (.goto 9, 3) := by decide +kernel
theorem dL_size_12 : decode cL_size 12 = .ok (.astore_n 3, 1) := by decide +kernel
theorem dL_size_13 : decode cL_size 13 = .ok (.iconst 1, 1) := by decide +kernel
theorem dL_size_14 : decode cL_size 14 = .ok (.ireturn, 1) := by decide +kernel
theorem dL_size_15 : decode cL_size 15 = .ok (.astore_n 3, 1) := by decide +kernel
theorem dL_size_16 : decode cL_size 16 = .ok (.iconst 2, 1) := by decide +kernel
theorem dL_size_17 : decode cL_size 17 = .ok (.ireturn, 1) := by decide +kernel
theorem dL_size_18 : decode cL_size 18 = .ok (.iconst 0, 1) := by decide +kernel
theorem dL_size_19 : decode cL_size 19 = .ok (.ireturn, 1) := by decide +kernel
set_option maxRecDepth 20000 in
theorem ggL_point_X4_point : GoodIn wsL_point wsX4_point := goodIn_ca (goodIn_ca (goodIn_ca (goodIn_r _ [8, 9, 10, 11, 12, 13, 14, 15, 16, 7, 17, 18, 19, 20, 21, 22, 23, 24, 25, 26, 27, 28, 29, 30, 31, 32, 33] (by decide +kernel) (by decide +kernel)) (goodIn_sub (fun _ h => List.mem_cons_of_mem _ (List.mem_append_left _ (List.mem_append_left _ (List.mem_append_right _ h)))) (by decide +kernel))) (goodIn_sub (fun _ h => List.mem_cons_of_mem _ (List.mem_append_left _ (List.mem_append_right _ h))) (by decide +kernel))) (goodIn_sub (fun _ h => List.mem_cons_of_mem _ (List.mem_append_right _ h)) (by decide +kernel))
set_option maxRecDepth 20000 in
theorem gL_point_X4_point : GoodIn wsL_point (wsV RL 24 RX4 yX4_point wsX4_point) := goodIn_app (goodIn_of _ (by decide +kernel)) ggL_point_X4_point
theorem dL_point_0 : decode cL_point 0 = .ok (.aload_n 3, 1) := by decide +kernel
theorem dL_point_1 : decode cL_point 1 = .ok (.iconst 0, 1) := by decide +kernel
theorem dL_point_2 : decode cL_point 2 = .ok (.aload_n 0, 1) := by decide +kernel
theorem dL_point_3 : decode cL_point 3 = .ok (.iload_n 1, 1) := by decide +kernel
theorem dL_point_4 : decode cL_point 4 = .ok (.iload_n 2, 1) := by decide +kernel
theorem dL_point_5 : decode cL_point 5 = .ok (.invokevirtual 24, 3) := by decide +kernel
theorem dL_point_8 : decode cL_point 8 = .ok (.i2l, 1) := by decide +kernel
theorem dL_point_9 : decode cL_point 9 = .ok (.lastore, 1) := by decide +kernel
theorem dL_point_10 : decode cL_point 10 = .ok (.goto 15, 3) := by decide +kernel
theorem dL_point_13 : decode cL_point 13 = .ok (.astore 4, 2) := by decide +kernel
theorem dL_point_15 : decode cL_point 15 = .ok (.iconst 1, 1) := by decide +kernel
theorem dL_point_16 : decode cL_point 16 = .ok (.ireturn, 1) := by decide +kernel
theorem dL_point_17 : decode cL_point 17 = .ok (.astore 4, 2) := by decide +kernel
theorem dL_point_19 : decode cL_point 19 = .ok (.iconst 2, 1) := by decide +kernel
theorem dL_point_20 : decode cL_point 20 = .ok (.ireturn, 1) := by decide +kernel
theorem dL_point_21 : decode cL_point 21 = .ok (.astore 4, 2) := by decide +kernel
theorem dL_point_23 : decode cL_point 23 = .ok (.iconst 3, 1) := by decide +kernel
theorem dL_point_24 : decode cL_point 24 = .ok (.ireturn, 1) := by decide +kernel
theorem dL_point_25 : decode cL_point 25 = .ok (.iconst 0, 1) := by decide +kernel
theorem dL_point_26 : decode cL_point 26 = .ok (.ireturn, 1) := by decide +kernel
set_option maxRecDepth 20000 in
theorem ggL_piece_X4_piece : GoodIn wsL_piece wsX4_piece := goodIn_ca (goodIn_ca (goodIn_ca (goodIn_r _ [8, 9, 10, 11, 12, 13, 14, 15, 16, 7, 17, 18, 19, 20, 21, 22, 23, 24, 25, 26, 27, 28, 29, 30] (by decide +kernel) (by decide +kernel)) (goodIn_sub (fun _ h => List.mem_cons_of_mem _ (List.mem_append_left _ (List.mem_append_left _ (List.mem_append_right _ h)))) (by decide +kernel))) (goodIn_sub (fun _ h => List.mem_cons_of_mem _ (List.mem_append_left _ (List.mem_append_right _ h))) (by decide +kernel))) (goodIn_sub (fun _ h => List.mem_cons_of_mem _ (List.mem_append_right _ h)) (by decide +kernel))
set_option maxRecDepth 20000 in
theorem gL_piece_X4_piece : GoodIn wsL_piece (wsV RL 30 RX4 yX4_piece wsX4_piece) := goodIn_app (goodIn_of _ (by decide +kernel)) ggL_piece_X4_piece
theorem dL_piece_0 : decode cL_piece 0 = .ok (.aload_n 3, 1) := by decide +kernel
theorem dL_piece_1 : decode cL_piece 1 = .ok (.iconst 0, 1) := by decide +kernel
theorem dL_piece_2 : decode cL_piece 2 = .ok (.aload_n 0, 1) := by decide +kernel
theorem dL_piece_3 : decode cL_piece 3 = .ok (.iload_n 1, 1) := by decide +kernel
theorem dL_piece_4 : decode cL_piece 4 = .ok (.iload_n 2, 1) := by decide +kernel
theorem dL_piece_5 : decode cL_piece 5 = .ok (.invokevirtual 30, 3) := by decide +kernel
theorem dL_piece_8 : decode cL_piece 8 = .ok (.i2l, 1) := by decide +kernel
theorem dL_piece_9 : decode cL_piece 9 = .ok (.lastore, 1) := by decide +kernel
theorem dL_piece_10 : decode cL_piece 10 = .ok (.goto 15, 3) := by decide +kernel
theorem dL_piece_13 : decode cL_piece 13 = .ok (.astore 4, 2) := by decide +kernel
theorem dL_piece_15 : decode cL_piece 15 = .ok (.iconst 1, 1) := by decide +kernel
theorem dL_piece_16 : decode cL_piece 16 = .ok (.ireturn, 1) := by decide +kernel
theorem dL_piece_17 : decode cL_piece 17 = .ok (.astore 4, 2) := by decide +kernel
theorem dL_piece_19 : decode cL_piece 19 = .ok (.iconst 2, 1) := by decide +kernel
theorem dL_piece_20 : decode cL_piece 20 = .ok (.ireturn, 1) := by decide +kernel
theorem dL_piece_21 : decode cL_piece 21 = .ok (.astore 4, 2) := by decide +kernel
theorem dL_piece_23 : decode cL_piece 23 = .ok (.iconst 3, 1) := by decide +kernel
theorem dL_piece_24 : decode cL_piece 24 = .ok (.ireturn, 1) := by decide +kernel
theorem dL_piece_25 : decode cL_piece 25 = .ok (.iconst 0, 1) := by decide +kernel
theorem dL_piece_26 : decode cL_piece 26 = .ok (.ireturn, 1) := by decide +kernel
set_option maxRecDepth 20000 in
theorem ggL_common_X4_common : GoodIn wsL_common wsX4_common := goodIn_ca (goodIn_ca (goodIn_r _ [7, 8, 9, 10, 11, 6, 12, 13, 14, 15, 16, 17, 18, 19, 20, 21, 22, 23, 24, 25, 26, 27, 28, 29, 30, 31, 32, 33, 34, 35, 36, 37, 38, 39, 40, 41, 42, 43, 44, 45, 46, 47, 48, 49, 50, 51, 52] (by decide +kernel) (by decide +kernel)) (goodIn_sub (fun _ h => List.mem_cons_of_mem _ (List.mem_append_left _ (List.mem_append_right _ h))) (by decide +kernel))) (goodIn_sub (fun _ h => List.mem_cons_of_mem _ (List.mem_append_right _ h)) (by decide +kernel))
set_option maxRecDepth 20000 in
theorem gL_common_X4_common : GoodIn wsL_common (wsV RL 33 RX4 yX4_common wsX4_common) := goodIn_app (goodIn_of _ (by decide +kernel)) ggL_common_X4_common
theorem dL_common_0 : decode cL_common 0 = .ok (.aload_n 3, 1) := by decide +kernel
theorem dL_common_1 : decode cL_common 1 = .ok (.iconst 0, 1) := by decide +kernel
theorem dL_common_2 : decode cL_common 2 = .ok (.aload_n 0, 1) := by decide +kernel
theorem dL_common_3 : decode cL_common 3 = .ok (.iload_n 1, 1) := by decide +kernel
theorem dL_common_4 : decode cL_common 4 = .ok (.iload_n 2, 1) := by decide +kernel
theorem dL_common_5 : decode cL_common 5 = .ok (.invokevirtual 33, 3) := by decide +kernel
theorem dL_common_8 : decode cL_common 8 = .ok (.i2l, 1) := by decide +kernel
theorem dL_common_9 : decode cL_common 9 = .ok (.lastore, 1) := by decide +kernel
theorem dL_common_10 : decode cL_common 10 = .ok (.goto 11, 3) := by decide +kernel
theorem dL_common_13 : decode cL_common 13 = .ok (.astore 4, 2) := by decide +kernel
theorem dL_common_15 : decode cL_common 15 = .ok (.iconst 1, 1) := by decide +kernel
theorem dL_common_16 : decode cL_common 16 = .ok (.ireturn, 1) := by decide +kernel
theorem dL_common_17 : decode cL_common 17 = .ok (.astore 4, 2) := by decide +kernel
theorem dL_common_19 : decode cL_common 19 = .ok (.iconst 2, 1) := by decide +kernel
theorem dL_common_20 : decode cL_common 20 = .ok (.ireturn, 1) := by decide +kernel
theorem dL_common_21 : decode cL_common 21 = .ok (.iconst 0, 1) := by decide +kernel
theorem dL_common_22 : decode cL_common 22 = .ok (.ireturn, 1) := by decide +kernel
set_option maxRecDepth 20000 in
theorem ggL_shared_X4_shared : GoodIn wsL_shared wsX4_shared := goodIn_ca (goodIn_ca (goodIn_ca (goodIn_r _ [8, 9, 10, 11, 12, 13, 14, 7, 15, 16, 17, 18, 19, 20, 21, 22, 23, 24, 25, 26, 27, 28, 29, 30, 31, 32, 33, 34, 35, 36, 37, 38, 39, 40, 41, 42, 43, 44, 45, 46, 47, 48, 49, 50, 51, 52, 53, 54, 55] (by decide +kernel) (by decide +kernel)) (goodIn_sub (fun _ h => List.mem_cons_of_mem _ (List.mem_append_left _ (List.mem_append_left _ (List.mem_append_right _ h)))) (by decide +kernel))) (goodIn_sub (fun _ h => List.mem_cons_of_mem _ (List.mem_append_left _ (List.mem_append_right _ h))) (by decide +kernel))) (goodIn_sub (fun _ h => List.mem_cons_of_mem _ (List.mem_append_right _ h)) (by decide +kernel))
set_option maxRecDepth 20000 in
theorem gL_shared_X4_shared : GoodIn wsL_shared (wsV RL 36 RX4 yX4_shared wsX4_shared) := goodIn_app (goodIn_of _ (by decide +kernel)) ggL_shared_X4_shared
theorem dL_shared_0 : decode cL_shared 0 = .ok (.aload 4, 2) := by decide +kernel
theorem dL_shared_2 : decode cL_shared 2 = .ok (.iconst 0, 1) := by decide +kernel
theorem dL_shared_3 : decode cL_shared 3 = .ok (.aload_n 0, 1) := by decide +kernel
theorem dL_shared_4 : decode cL_shared 4 = .ok (.iload_n 1, 1) := by decide +kernel
theorem dL_shared_5 : decode cL_shared 5 = .ok (.iload_n 2, 1) := by decide +kernel
theorem dL_shared_6 : decode cL_shared 6 = .ok (.iload_n 3, 1) := by decide +kernel
theorem dL_shared_7 : decode cL_shared 7 = .ok (.invokevirtual 36, 3) := by decide +kernel
theorem dL_shared_10 : decode cL_shared 10 = .ok (.i2l, 1) := by decide +kernel
theorem dL_shared_11 : decode cL_shared 11 = .ok (.lastore, 1) := by decide +kernel
theorem dL_shared_12 : decode cL_shared 12 = .ok (.goto 15, 3) := by decide +kernel
theorem dL_shared_15 : decode cL_shared 15 = .ok (.astore 5, 2) := by decide +kernel
theorem dL_shared_17 : decode cL_shared 17 = .ok (.iconst 1, 1) := by decide +kernel
theorem dL_shared_18 : decode cL_shared 18 = .ok (.ireturn, 1) := by decide +kernel
theorem dL_shared_19 : decode cL_shared 19 = .ok (.astore 5, 2) := by decide +kernel
theorem dL_shared_21 : decode cL_shared 21 = .ok (.iconst 2, 1) := by decide +kernel
theorem dL_shared_22 : decode cL_shared 22 = .ok (.ireturn, 1) := by decide +kernel
theorem dL_shared_23 : decode cL_shared 23 = .ok (.astore 5, 2) := by decide +kernel
theorem dL_shared_25 : decode cL_shared 25 = .ok (.iconst 3, 1) := by decide +kernel
theorem dL_shared_26 : decode cL_shared 26 = .ok (.ireturn, 1) := by decide +kernel
theorem dL_shared_27 : decode cL_shared 27 = .ok (.iconst 0, 1) := by decide +kernel
theorem dL_shared_28 : decode cL_shared 28 = .ok (.ireturn, 1) := by decide +kernel
set_option maxRecDepth 20000 in
theorem ggL_bounds_X4_bounds : GoodIn wsL_bounds wsX4_bounds := goodIn_ca (goodIn_ca (goodIn_r _ [7, 8, 9, 10, 11, 6, 12, 13, 14, 15, 16, 17, 18, 19, 20, 21, 22, 23, 24, 25, 26, 27, 28, 29, 30, 31, 32, 33, 34, 35, 36, 37, 38, 39, 40, 41, 42, 43, 44, 45, 46, 47] (by decide +kernel) (by decide +kernel)) (goodIn_sub (fun _ h => List.mem_cons_of_mem _ (List.mem_append_left _ (List.mem_append_right _ h))) (by decide +kernel))) (goodIn_sub (fun _ h => List.mem_cons_of_mem _ (List.mem_append_right _ h)) (by decide +kernel))
set_option maxRecDepth 20000 in
theorem gL_bounds_X4_bounds : GoodIn wsL_bounds (wsV RL 42 RX4 yX4_bounds wsX4_bounds) := goodIn_app (goodIn_of _ (by decide +kernel)) ggL_bounds_X4_bounds
theorem dL_bounds_0 : decode cL_bounds 0 = .ok (.aload_n 2, 1) := by decide +kernel
theorem dL_bounds_1 : decode cL_bounds 1 = .ok (.iconst 0, 1) := by decide +kernel
theorem dL_bounds_2 : decode cL_bounds 2 = .ok (.aload_n 0, 1) := by decide +kernel
theorem dL_bounds_3 : decode cL_bounds 3 = .ok (.iload_n 1, 1) := by decide +kernel
theorem dL_bounds_4 : decode cL_bounds 4 = .ok (.invokevirtual 42, 3) := by decide +kernel
theorem dL_bounds_7 : decode cL_bounds 7 = .ok (.i2l, 1) := by decide +kernel
theorem dL_bounds_8 : decode cL_bounds 8 = .ok (.lastore, 1) := by decide +kernel
theorem dL_bounds_9 : decode cL_bounds 9 = .ok (.goto 9, 3) := by decide +kernel
theorem dL_bounds_12 : decode cL_bounds 12 = .ok (.astore_n 3, 1) := by decide +kernel
theorem dL_bounds_13 : decode cL_bounds 13 = .ok (.iconst 1, 1) := by decide +kernel
theorem dL_bounds_14 : decode cL_bounds 14 = .ok (.ireturn, 1) := by decide +kernel
theorem dL_bounds_15 : decode cL_bounds 15 = .ok (.astore_n 3, 1) := by decide +kernel
theorem dL_bounds_16 : decode cL_bounds 16 = .ok (.iconst 2, 1) := by decide +kernel
theorem dL_bounds_17 : decode cL_bounds 17 = .ok (.ireturn, 1) := by decide +kernel
theorem dL_bounds_18 : decode cL_bounds 18 = .ok (.iconst 0, 1) := by decide +kernel
theorem dL_bounds_19 : decode cL_bounds 19 = .ok (.ireturn, 1) := by decide +kernel
set_option maxRecDepth 20000 in
theorem ggL_bound_X4_bound : GoodIn wsL_bound wsX4_bound := goodIn_ca (goodIn_ca (goodIn_ca (goodIn_r _ [8, 9, 10, 11, 12, 13, 14, 7, 15, 16, 17, 18, 19, 20, 21, 22, 23, 24, 25, 26, 27, 28, 29, 30, 31, 32, 33, 34, 35, 36, 37, 38, 39, 40, 41, 42, 43, 44, 45, 46, 47, 48, 49, 50] (by decide +kernel) (by decide +kernel)) (goodIn_sub (fun _ h => List.mem_cons_of_mem _ (List.mem_append_left _ (List.mem_append_left _ (List.mem_append_right _ h)))) (by decide +kernel))) (goodIn_sub (fun _ h => List.mem_cons_of_mem _ (List.mem_append_left _ (List.mem_append_right _ h))) (by decide +kernel))) (goodIn_sub (fun _ h => List.mem_cons_of_mem _ (List.mem_append_right _ h)) (by decide +kernel))
set_option maxRecDepth 20000 in
theorem gL_bound_X4_bound : GoodIn wsL_bound (wsV RL 45 RX4 yX4_bound wsX4_bound) := goodIn_app (goodIn_of _ (by decide +kernel)) ggL_bound_X4_bound
theorem dL_bound_0 : decode cL_bound 0 = .ok (.aload_n 3, 1) := by decide +kernel
theorem dL_bound_1 : decode cL_bound 1 = .ok (.iconst 0, 1) := by decide +kernel
theorem dL_bound_2 : decode cL_bound 2 = .ok (.aload_n 0, 1) := by decide +kernel
theorem dL_bound_3 : decode cL_bound 3 = .ok (.iload_n 1, 1) := by decide +kernel
theorem dL_bound_4 : decode cL_bound 4 = .ok (.iload_n 2, 1) := by decide +kernel
theorem dL_bound_5 : decode cL_bound 5 = .ok (.invokevirtual 45, 3) := by decide +kernel
theorem dL_bound_8 : decode cL_bound 8 = .ok (.i2l, 1) := by decide +kernel
theorem dL_bound_9 : decode cL_bound 9 = .ok (.lastore, 1) := by decide +kernel
theorem dL_bound_10 : decode cL_bound 10 = .ok (.goto 15, 3) := by decide +kernel
theorem dL_bound_13 : decode cL_bound 13 = .ok (.astore 4, 2) := by decide +kernel
theorem dL_bound_15 : decode cL_bound 15 = .ok (.iconst 1, 1) := by decide +kernel
theorem dL_bound_16 : decode cL_bound 16 = .ok (.ireturn, 1) := by decide +kernel
theorem dL_bound_17 : decode cL_bound 17 = .ok (.astore 4, 2) := by decide +kernel
theorem dL_bound_19 : decode cL_bound 19 = .ok (.iconst 2, 1) := by decide +kernel
theorem dL_bound_20 : decode cL_bound 20 = .ok (.ireturn, 1) := by decide +kernel
theorem dL_bound_21 : decode cL_bound 21 = .ok (.astore 4, 2) := by decide +kernel
theorem dL_bound_23 : decode cL_bound 23 = .ok (.iconst 3, 1) := by decide +kernel
theorem dL_bound_24 : decode cL_bound 24 = .ok (.ireturn, 1) := by decide +kernel
theorem dL_bound_25 : decode cL_bound 25 = .ok (.iconst 0, 1) := by decide +kernel
theorem dL_bound_26 : decode cL_bound 26 = .ok (.ireturn, 1) := by decide +kernel
set_option maxRecDepth 20000 in
theorem ggL_where_X4_where : GoodIn wsL_where wsX4_where := goodIn_ca (goodIn_ca (goodIn_r _ [7, 8, 9, 10, 11, 12, 13, 14, 6, 15, 16, 17, 18, 19, 20, 21, 22, 23, 24, 25, 26, 27, 28, 29, 30, 31, 32, 33, 34, 35, 36, 37, 38, 39, 40, 41, 42, 43, 44, 45, 46, 47, 48, 49, 50, 51, 52, 53, 54, 55, 56, 57, 58, 59, 60, 61, 62, 63, 64, 65, 66, 67, 68, 69, 70, 71, 72, 73, 74, 75, 76, 77, 78, 79, 80, 81, 82] (by decide +kernel) (by decide +kernel)) (goodIn_sub (fun _ h => List.mem_cons_of_mem _ (List.mem_append_left _ (List.mem_append_right _ h))) (by decide +kernel))) (goodIn_sub (fun _ h => List.mem_cons_of_mem _ (List.mem_append_right _ h)) (by decide +kernel))
set_option maxRecDepth 20000 in
theorem gL_where_X4_where : GoodIn wsL_where (wsV RL 48 RX4 yX4_where wsX4_where) := goodIn_app (goodIn_of _ (by decide +kernel)) ggL_where_X4_where
theorem dL_where_0 : decode cL_where 0 = .ok (.aload 5, 2) := by decide +kernel
theorem dL_where_2 : decode cL_where 2 = .ok (.iconst 0, 1) := by decide +kernel
theorem dL_where_3 : decode cL_where 3 = .ok (.aload_n 0, 1) := by decide +kernel
theorem dL_where_4 : decode cL_where 4 = .ok (.iload_n 1, 1) := by decide +kernel
theorem dL_where_5 : decode cL_where 5 = .ok (.iload_n 2, 1) := by decide +kernel
theorem dL_where_6 : decode cL_where 6 = .ok (.iload_n 3, 1) := by decide +kernel
theorem dL_where_7 : decode cL_where 7 = .ok (.iload 4, 2) := by decide +kernel
theorem dL_where_9 : decode cL_where 9 = .ok (.invokevirtual 48, 3) := by decide +kernel
theorem dL_where_12 : decode cL_where 12 = .ok (.i2l, 1) := by decide +kernel
theorem dL_where_13 : decode cL_where 13 = .ok (.lastore, 1) := by decide +kernel
theorem dL_where_14 : decode cL_where 14 = .ok (.goto 11, 3) := by decide +kernel
theorem dL_where_17 : decode cL_where 17 = .ok (.astore 6, 2) := by decide +kernel
theorem dL_where_19 : decode cL_where 19 = .ok (.iconst 1, 1) := by decide +kernel
theorem dL_where_20 : decode cL_where 20 = .ok (.ireturn, 1) := by decide +kernel
theorem dL_where_21 : decode cL_where 21 = .ok (.astore 6, 2) := by decide +kernel
theorem dL_where_23 : decode cL_where 23 = .ok (.iconst 2, 1) := by decide +kernel
theorem dL_where_24 : decode cL_where 24 = .ok (.ireturn, 1) := by decide +kernel
theorem dL_where_25 : decode cL_where 25 = .ok (.iconst 0, 1) := by decide +kernel
theorem dL_where_26 : decode cL_where 26 = .ok (.ireturn, 1) := by decide +kernel
set_option maxRecDepth 20000 in
theorem ggL_area_X4_area : GoodIn wsL_area wsX4_area := goodIn_ca (goodIn_ca (goodIn_r _ [7, 8, 9, 10, 11, 12, 13, 6, 14, 15, 16, 17, 18, 19, 20, 21, 22, 23, 24, 25, 26, 27, 28, 29, 30, 31, 32, 33, 34, 35, 36, 37, 38, 39, 40, 41, 42, 43, 44, 45, 46, 47, 48, 49, 50, 51, 52, 53, 54, 55, 56, 57, 58, 59, 60, 61, 62, 63] (by decide +kernel) (by decide +kernel)) (goodIn_sub (fun _ h => List.mem_cons_of_mem _ (List.mem_append_left _ (List.mem_append_right _ h))) (by decide +kernel))) (goodIn_sub (fun _ h => List.mem_cons_of_mem _ (List.mem_append_right _ h)) (by decide +kernel))
set_option maxRecDepth 20000 in
theorem gL_area_X4_area : GoodIn wsL_area (wsV RL 52 RX4 yX4_area wsX4_area) := goodIn_app (goodIn_of _ (by decide +kernel)) ggL_area_X4_area
theorem dL_area_0 : decode cL_area 0 = .ok (.aload_n 2, 1) := by decide +kernel
theorem dL_area_1 : decode cL_area 1 = .ok (.iconst 0, 1) := by decide +kernel
theorem dL_area_2 : decode cL_area 2 = .ok (.aload_n 0, 1) := by decide +kernel
theorem dL_area_3 : decode cL_area 3 = .ok (.iload_n 1, 1) := by decide +kernel
theorem dL_area_4 : decode cL_area 4 = .ok (.invokevirtual 52, 3) := by decide +kernel
theorem dL_area_7 : decode cL_area 7 = .ok (.dastore, 1) := by decide +kernel
theorem dL_area_8 : decode cL_area 8 = .ok (.goto 9, 3) := by decide +kernel
theorem dL_area_11 : decode cL_area 11 = .ok (.astore_n 3, 1) := by decide +kernel
theorem dL_area_12 : decode cL_area 12 = .ok (.iconst 1, 1) := by decide +kernel
theorem dL_area_13 : decode cL_area 13 = .ok (.ireturn, 1) := by decide +kernel
theorem dL_area_14 : decode cL_area 14 = .ok (.astore_n 3, 1) := by decide +kernel
theorem dL_area_15 : decode cL_area 15 = .ok (.iconst 2, 1) := by decide +kernel
theorem dL_area_16 : decode cL_area 16 = .ok (.ireturn, 1) := by decide +kernel
theorem dL_area_17 : decode cL_area 17 = .ok (.iconst 0, 1) := by decide +kernel
theorem dL_area_18 : decode cL_area 18 = .ok (.ireturn, 1) := by decide +kernel
theorem dL_law_0 : decode cL_law 0 = .ok (.new 8, 3) := by decide +kernel
theorem dL_law_3 : decode cL_law 3 = .ok (.dup, 1) := by decide +kernel
theorem dL_law_4 : decode cL_law 4 = .ok (.invokespecial 56, 3) := by decide +kernel
theorem dL_law_7 : decode cL_law 7 = .ok (.astore_n 1, 1) := by decide +kernel
theorem dL_law_8 : decode cL_law 8 = .ok (.new 57, 3) := by decide +kernel
theorem dL_law_11 : decode cL_law 11 = .ok (.dup, 1) := by decide +kernel
theorem dL_law_12 : decode cL_law 12 = .ok (.invokespecial 59, 3) := by decide +kernel
theorem dL_law_15 : decode cL_law 15 = .ok (.astore_n 2, 1) := by decide +kernel
theorem dL_law_16 : decode cL_law 16 = .ok (.iconst 1, 1) := by decide +kernel
theorem dL_law_17 : decode cL_law 17 = .ok (.newarray .long, 2) := by decide +kernel
theorem dL_law_19 : decode cL_law 19 = .ok (.astore_n 3, 1) := by decide +kernel
theorem dL_law_20 : decode cL_law 20 = .ok (.iconst 1, 1) := by decide +kernel
theorem dL_law_21 : decode cL_law 21 = .ok (.newarray .double, 2) := by decide +kernel
theorem dL_law_23 : decode cL_law 23 = .ok (.astore 4, 2) := by decide +kernel
theorem dL_law_25 : decode cL_law 25 = .ok (.iconst 0, 1) := by decide +kernel
theorem dL_law_26 : decode cL_law 26 = .ok (.istore 5, 2) := by decide +kernel
theorem dL_law_28 : decode cL_law 28 = .ok (.iload 5, 2) := by decide +kernel
theorem dL_law_30 : decode cL_law 30 = .ok (.aload_n 0, 1) := by decide +kernel
theorem dL_law_31 : decode cL_law 31 = .ok (.arraylength, 1) := by decide +kernel
theorem dL_law_32 : decode cL_law 32 = .ok (.iconst 5, 1) := by decide +kernel
theorem dL_law_33 : decode cL_law 33 = .ok (.isub, 1) := by decide +kernel
theorem dL_law_34 : decode cL_law 34 = .ok (.if_icmp .gt 878, 3) := by decide +kernel
theorem dL_law_37 : decode cL_law 37 = .ok (.aload_n 0, 1) := by decide +kernel
theorem dL_law_38 : decode cL_law 38 = .ok (.iload 5, 2) := by decide +kernel
theorem dL_law_40 : decode cL_law 40 = .ok (.iaload, 1) := by decide +kernel
theorem dL_law_41 : decode cL_law 41 = .ok (.bipush 15, 2) := by decide +kernel
theorem dL_law_43 : decode cL_law 43 = .ok (.iand, 1) := by decide +kernel
theorem dL_law_44 : decode cL_law 44 = .ok (.tableswitch 862 0 11 #[64, 144, 200, 213, 269, 337, 405, 473, 569, 625, 693, 785], 64) := by decide +kernel
theorem dL_law_108 : decode cL_law 108 = .ok (.aload_n 1, 1) := by decide +kernel
theorem dL_law_109 : decode cL_law 109 = .ok (.aload_n 0, 1) := by decide +kernel
theorem dL_law_110 : decode cL_law 110 = .ok (.iload 5, 2) := by decide +kernel
theorem dL_law_112 : decode cL_law 112 = .ok (.iconst 1, 1) := by decide +kernel
theorem dL_law_113 : decode cL_law 113 = .ok (.iadd, 1) := by decide +kernel
theorem dL_law_114 : decode cL_law 114 = .ok (.iaload, 1) := by decide +kernel
theorem dL_law_115 : decode cL_law 115 = .ok (.aload_n 0, 1) := by decide +kernel
theorem dL_law_116 : decode cL_law 116 = .ok (.iload 5, 2) := by decide +kernel
theorem dL_law_118 : decode cL_law 118 = .ok (.iconst 2, 1) := by decide +kernel
theorem dL_law_119 : decode cL_law 119 = .ok (.iadd, 1) := by decide +kernel
theorem dL_law_120 : decode cL_law 120 = .ok (.iaload, 1) := by decide +kernel
theorem dL_law_121 : decode cL_law 121 = .ok (.aload_n 0, 1) := by decide +kernel
theorem dL_law_122 : decode cL_law 122 = .ok (.iload 5, 2) := by decide +kernel
theorem dL_law_124 : decode cL_law 124 = .ok (.iconst 3, 1) := by decide +kernel
theorem dL_law_125 : decode cL_law 125 = .ok (.iadd, 1) := by decide +kernel
theorem dL_law_126 : decode cL_law 126 = .ok (.iaload, 1) := by decide +kernel
theorem dL_law_127 : decode cL_law 127 = .ok (.aload_n 3, 1) := by decide +kernel
theorem dL_law_128 : decode cL_law 128 = .ok (.invokestatic 60, 3) := by decide +kernel
theorem dL_law_131 : decode cL_law 131 = .ok (.istore 6, 2) := by decide +kernel
theorem dL_law_133 : decode cL_law 133 = .ok (.aload_n 2, 1) := by decide +kernel
theorem dL_law_134 : decode cL_law 134 = .ok (.aload_n 0, 1) := by decide +kernel
theorem dL_law_135 : decode cL_law 135 = .ok (.iload 5, 2) := by decide +kernel
theorem dL_law_137 : decode cL_law 137 = .ok (.iconst 1, 1) := by decide +kernel
theorem dL_law_138 : decode cL_law 138 = .ok (.iadd, 1) := by decide +kernel
theorem dL_law_139 : decode cL_law 139 = .ok (.iaload, 1) := by decide +kernel
theorem dL_law_140 : decode cL_law 140 = .ok (.aload_n 0, 1) := by decide +kernel
theorem dL_law_141 : decode cL_law 141 = .ok (.iload 5, 2) := by decide +kernel
theorem dL_law_143 : decode cL_law 143 = .ok (.iconst 2, 1) := by decide +kernel
theorem dL_law_144 : decode cL_law 144 = .ok (.iadd, 1) := by decide +kernel
theorem dL_law_145 : decode cL_law 145 = .ok (.iaload, 1) := by decide +kernel
theorem dL_law_146 : decode cL_law 146 = .ok (.aload_n 0, 1) := by decide +kernel
theorem dL_law_147 : decode cL_law 147 = .ok (.iload 5, 2) := by decide +kernel
theorem dL_law_149 : decode cL_law 149 = .ok (.iconst 3, 1) := by decide +kernel
theorem dL_law_150 : decode cL_law 150 = .ok (.iadd, 1) := by decide +kernel
theorem dL_law_151 : decode cL_law 151 = .ok (.iaload, 1) := by decide +kernel
theorem dL_law_152 : decode cL_law 152 = .ok (.invokevirtual 65, 3) := by decide +kernel
theorem dL_law_155 : decode cL_law 155 = .ok (.istore 7, 2) := by decide +kernel
theorem dL_law_157 : decode cL_law 157 = .ok (.aload_n 2, 1) := by decide +kernel
theorem dL_law_158 : decode cL_law 158 = .ok (.invokevirtual 66, 3) := by decide +kernel
theorem dL_law_161 : decode cL_law 161 = .ok (.iload 6, 2) := by decide +kernel
theorem dL_law_163 : decode cL_law 163 = .ok (.if_icmp .eq 5, 3) := by decide +kernel
theorem dL_law_166 : decode cL_law 166 = .ok (.iconst 0, 1) := by decide +kernel
theorem dL_law_167 : decode cL_law 167 = .ok (.ireturn, 1) := by decide +kernel
theorem dL_law_168 : decode cL_law 168 = .ok (.iload 6, 2) := by decide +kernel
theorem dL_law_170 : decode cL_law 170 = .ok (.ifCond .ne 15, 3) := by decide +kernel
theorem dL_law_173 : decode cL_law 173 = .ok (.aload_n 3, 1) := by decide +kernel
theorem dL_law_174 : decode cL_law 174 = .ok (.iconst 0, 1) := by decide +kernel
theorem dL_law_175 : decode cL_law 175 = .ok (.laload, 1) := by decide +kernel
theorem dL_law_176 : decode cL_law 176 = .ok (.iload 7, 2) := by decide +kernel
theorem dL_law_178 : decode cL_law 178 = .ok (.i2l, 1) := by decide +kernel
theorem dL_law_179 : decode cL_law 179 = .ok (.lcmp, 1) := by decide +kernel
theorem dL_law_180 : decode cL_law 180 = .ok (.ifCond .eq 5, 3) := by decide +kernel
theorem dL_law_183 : decode cL_law 183 = .ok (.iconst 0, 1) := by decide +kernel
theorem dL_law_184 : decode cL_law 184 = .ok (.ireturn, 1) := by decide +kernel
theorem dL_law_185 : decode cL_law 185 = .ok (.goto 721, 3) := by decide +kernel
theorem dL_law_188 : decode cL_law 188 = .ok (.aload_n 1, 1) := by decide +kernel
theorem dL_law_189 : decode cL_law 189 = .ok (.aload_n 0, 1) := by decide +kernel
theorem dL_law_190 : decode cL_law 190 = .ok (.iload 5, 2) := by decide +kernel
theorem dL_law_192 : decode cL_law 192 = .ok (.iconst 1, 1) := by decide +kernel
theorem dL_law_193 : decode cL_law 193 = .ok (.iadd, 1) := by decide +kernel
theorem dL_law_194 : decode cL_law 194 = .ok (.iaload, 1) := by decide +kernel
theorem dL_law_195 : decode cL_law 195 = .ok (.aload_n 3, 1) := by decide +kernel
theorem dL_law_196 : decode cL_law 196 = .ok (.invokestatic 70, 3) := by decide +kernel
theorem dL_law_199 : decode cL_law 199 = .ok (.istore 6, 2) := by decide +kernel
theorem dL_law_201 : decode cL_law 201 = .ok (.aload_n 2, 1) := by decide +kernel
theorem dL_law_202 : decode cL_law 202 = .ok (.aload_n 0, 1) := by decide +kernel
theorem dL_law_203 : decode cL_law 203 = .ok (.iload 5, 2) := by decide +kernel
theorem dL_law_205 : decode cL_law 205 = .ok (.iconst 1, 1) := by decide +kernel
theorem dL_law_206 : decode cL_law 206 = .ok (.iadd, 1) := by decide +kernel
theorem dL_law_207 : decode cL_law 207 = .ok (.iaload, 1) := by decide +kernel
theorem dL_law_208 : decode cL_law 208 = .ok (.invokevirtual 73, 3) := by decide +kernel
theorem dL_law_211 : decode cL_law 211 = .ok (.istore 7, 2) := by decide +kernel
theorem dL_law_213 : decode cL_law 213 = .ok (.aload_n 2, 1) := by decide +kernel
theorem dL_law_214 : decode cL_law 214 = .ok (.invokevirtual 66, 3) := by decide +kernel
theorem dL_law_217 : decode cL_law 217 = .ok (.iload 6, 2) := by decide +kernel
theorem dL_law_219 : decode cL_law 219 = .ok (.if_icmp .eq 5, 3) := by decide +kernel
theorem dL_law_222 : decode cL_law 222 = .ok (.iconst 0, 1) := by decide +kernel
theorem dL_law_223 : decode cL_law 223 = .ok (.ireturn, 1) := by decide +kernel
theorem dL_law_224 : decode cL_law 224 = .ok (.iload 6, 2) := by decide +kernel
theorem dL_law_226 : decode cL_law 226 = .ok (.ifCond .ne 15, 3) := by decide +kernel
theorem dL_law_229 : decode cL_law 229 = .ok (.aload_n 3, 1) := by decide +kernel
theorem dL_law_230 : decode cL_law 230 = .ok (.iconst 0, 1) := by decide +kernel
theorem dL_law_231 : decode cL_law 231 = .ok (.laload, 1) := by decide +kernel
theorem dL_law_232 : decode cL_law 232 = .ok (.iload 7, 2) := by decide +kernel
theorem dL_law_234 : decode cL_law 234 = .ok (.i2l, 1) := by decide +kernel
theorem dL_law_235 : decode cL_law 235 = .ok (.lcmp, 1) := by decide +kernel
theorem dL_law_236 : decode cL_law 236 = .ok (.ifCond .eq 5, 3) := by decide +kernel
theorem dL_law_239 : decode cL_law 239 = .ok (.iconst 0, 1) := by decide +kernel
theorem dL_law_240 : decode cL_law 240 = .ok (.ireturn, 1) := by decide +kernel
theorem dL_law_241 : decode cL_law 241 = .ok (.goto 665, 3) := by decide +kernel
theorem dL_law_244 : decode cL_law 244 = .ok (.aload_n 1, 1) := by decide +kernel
theorem dL_law_245 : decode cL_law 245 = .ok (.invokevirtual 74, 3) := by decide +kernel
theorem dL_law_248 : decode cL_law 248 = .ok (.aload_n 2, 1) := by decide +kernel
theorem dL_law_249 : decode cL_law 249 = .ok (.invokevirtual 77, 3) := by decide +kernel
theorem dL_law_252 : decode cL_law 252 = .ok (.if_icmp .eq 654, 3) := by decide +kernel
theorem dL_law_255 : decode cL_law 255 = .ok (.iconst 0, 1) := by decide +kernel
theorem dL_law_256 : decode cL_law 256 = .ok (.ireturn, 1) := by decide +kernel
theorem dL_law_257 : decode cL_law 257 = .ok (.aload_n 1, 1) := by decide +kernel
theorem dL_law_258 : decode cL_law 258 = .ok (.aload_n 0, 1) := by decide +kernel
theorem dL_law_259 : decode cL_law 259 = .ok (.iload 5, 2) := by decide +kernel
theorem dL_law_261 : decode cL_law 261 = .ok (.iconst 1, 1) := by decide +kernel
theorem dL_law_262 : decode cL_law 262 = .ok (.iadd, 1) := by decide +kernel
theorem dL_law_263 : decode cL_law 263 = .ok (.iaload, 1) := by decide +kernel
theorem dL_law_264 : decode cL_law 264 = .ok (.aload_n 3, 1) := by decide +kernel
theorem dL_law_265 : decode cL_law 265 = .ok (.invokestatic 78, 3) := by decide +kernel
theorem dL_law_268 : decode cL_law 268 = .ok (.istore 6, 2) := by decide +kernel
theorem dL_law_270 : decode cL_law 270 = .ok (.aload_n 2, 1) := by decide +kernel
theorem dL_law_271 : decode cL_law 271 = .ok (.aload_n 0, 1) := by decide +kernel
theorem dL_law_272 : decode cL_law 272 = .ok (.iload 5, 2) := by decide +kernel
theorem dL_law_274 : decode cL_law 274 = .ok (.iconst 1, 1) := by decide +kernel
theorem dL_law_275 : decode cL_law 275 = .ok (.iadd, 1) := by decide +kernel
theorem dL_law_276 : decode cL_law 276 = .ok (.iaload, 1) := by decide +kernel
theorem dL_law_277 : decode cL_law 277 = .ok (.invokevirtual 80, 3) := by decide +kernel
theorem dL_law_280 : decode cL_law 280 = .ok (.istore 7, 2) := by decide +kernel
theorem dL_law_282 : decode cL_law 282 = .ok (.aload_n 2, 1) := by decide +kernel
theorem dL_law_283 : decode cL_law 283 = .ok (.invokevirtual 66, 3) := by decide +kernel
theorem dL_law_286 : decode cL_law 286 = .ok (.iload 6, 2) := by decide +kernel
theorem dL_law_288 : decode cL_law 288 = .ok (.if_icmp .eq 5, 3) := by decide +kernel
theorem dL_law_291 : decode cL_law 291 = .ok (.iconst 0, 1) := by decide +kernel
theorem dL_law_292 : decode cL_law 292 = .ok (.ireturn, 1) := by decide +kernel
theorem dL_law_293 : decode cL_law 293 = .ok (.iload 6, 2) := by decide +kernel
theorem dL_law_295 : decode cL_law 295 = .ok (.ifCond .ne 15, 3) := by decide +kernel
theorem dL_law_298 : decode cL_law 298 = .ok (.aload_n 3, 1) := by decide +kernel
theorem dL_law_299 : decode cL_law 299 = .ok (.iconst 0, 1) := by decide +kernel
theorem dL_law_300 : decode cL_law 300 = .ok (.laload, 1) := by decide +kernel
theorem dL_law_301 : decode cL_law 301 = .ok (.iload 7, 2) := by decide +kernel
theorem dL_law_303 : decode cL_law 303 = .ok (.i2l, 1) := by decide +kernel
theorem dL_law_304 : decode cL_law 304 = .ok (.lcmp, 1) := by decide +kernel
theorem dL_law_305 : decode cL_law 305 = .ok (.ifCond .eq 5, 3) := by decide +kernel
theorem dL_law_308 : decode cL_law 308 = .ok (.iconst 0, 1) := by decide +kernel
theorem dL_law_309 : decode cL_law 309 = .ok (.ireturn, 1) := by decide +kernel
theorem dL_law_310 : decode cL_law 310 = .ok (.goto 596, 3) := by decide +kernel
theorem dL_law_313 : decode cL_law 313 = .ok (.aload_n 1, 1) := by decide +kernel
theorem dL_law_314 : decode cL_law 314 = .ok (.aload_n 0, 1) := by decide +kernel
theorem dL_law_315 : decode cL_law 315 = .ok (.iload 5, 2) := by decide +kernel
theorem dL_law_317 : decode cL_law 317 = .ok (.iconst 1, 1) := by decide +kernel
theorem dL_law_318 : decode cL_law 318 = .ok (.iadd, 1) := by decide +kernel
theorem dL_law_319 : decode cL_law 319 = .ok (.iaload, 1) := by decide +kernel
theorem dL_law_320 : decode cL_law 320 = .ok (.aload_n 0, 1) := by decide +kernel
theorem dL_law_321 : decode cL_law 321 = .ok (.iload 5, 2) := by decide +kernel
theorem dL_law_323 : decode cL_law 323 = .ok (.iconst 2, 1) := by decide +kernel
theorem dL_law_324 : decode cL_law 324 = .ok (.iadd, 1) := by decide +kernel
theorem dL_law_325 : decode cL_law 325 = .ok (.iaload, 1) := by decide +kernel
theorem dL_law_326 : decode cL_law 326 = .ok (.aload_n 3, 1) := by decide +kernel
theorem dL_law_327 : decode cL_law 327 = .ok (.invokestatic 81, 3) := by decide +kernel
theorem dL_law_330 : decode cL_law 330 = .ok (.istore 6, 2) := by decide +kernel
theorem dL_law_332 : decode cL_law 332 = .ok (.aload_n 2, 1) := by decide +kernel
theorem dL_law_333 : decode cL_law 333 = .ok (.aload_n 0, 1) := by decide +kernel
theorem dL_law_334 : decode cL_law 334 = .ok (.iload 5, 2) := by decide +kernel
theorem dL_law_336 : decode cL_law 336 = .ok (.iconst 1, 1) := by decide +kernel
theorem dL_law_337 : decode cL_law 337 = .ok (.iadd, 1) := by decide +kernel
theorem dL_law_338 : decode cL_law 338 = .ok (.iaload, 1) := by decide +kernel
theorem dL_law_339 : decode cL_law 339 = .ok (.aload_n 0, 1) := by decide +kernel
theorem dL_law_340 : decode cL_law 340 = .ok (.iload 5, 2) := by decide +kernel
theorem dL_law_342 : decode cL_law 342 = .ok (.iconst 2, 1) := by decide +kernel
theorem dL_law_343 : decode cL_law 343 = .ok (.iadd, 1) := by decide +kernel
theorem dL_law_344 : decode cL_law 344 = .ok (.iaload, 1) := by decide +kernel
theorem dL_law_345 : decode cL_law 345 = .ok (.invokevirtual 84, 3) := by decide +kernel
theorem dL_law_348 : decode cL_law 348 = .ok (.istore 7, 2) := by decide +kernel
theorem dL_law_350 : decode cL_law 350 = .ok (.aload_n 2, 1) := by decide +kernel
theorem dL_law_351 : decode cL_law 351 = .ok (.invokevirtual 66, 3) := by decide +kernel
theorem dL_law_354 : decode cL_law 354 = .ok (.iload 6, 2) := by decide +kernel
theorem dL_law_356 : decode cL_law 356 = .ok (.if_icmp .eq 5, 3) := by decide +kernel
theorem dL_law_359 : decode cL_law 359 = .ok (.iconst 0, 1) := by decide +kernel
theorem dL_law_360 : decode cL_law 360 = .ok (.ireturn, 1) := by decide +kernel
theorem dL_law_361 : decode cL_law 361 = .ok (.iload 6, 2) := by decide +kernel
theorem dL_law_363 : decode cL_law 363 = .ok (.ifCond .ne 15, 3) := by decide +kernel
theorem dL_law_366 : decode cL_law 366 = .ok (.aload_n 3, 1) := by decide +kernel
theorem dL_law_367 : decode cL_law 367 = .ok (.iconst 0, 1) := by decide +kernel
theorem dL_law_368 : decode cL_law 368 = .ok (.laload, 1) := by decide +kernel
theorem dL_law_369 : decode cL_law 369 = .ok (.iload 7, 2) := by decide +kernel
theorem dL_law_371 : decode cL_law 371 = .ok (.i2l, 1) := by decide +kernel
theorem dL_law_372 : decode cL_law 372 = .ok (.lcmp, 1) := by decide +kernel
theorem dL_law_373 : decode cL_law 373 = .ok (.ifCond .eq 5, 3) := by decide +kernel
theorem dL_law_376 : decode cL_law 376 = .ok (.iconst 0, 1) := by decide +kernel
theorem dL_law_377 : decode cL_law 377 = .ok (.ireturn, 1) := by decide +kernel
theorem dL_law_378 : decode cL_law 378 = .ok (.goto 528, 3) := by decide +kernel
theorem dL_law_381 : decode cL_law 381 = .ok (.aload_n 1, 1) := by decide +kernel
theorem dL_law_382 : decode cL_law 382 = .ok (.aload_n 0, 1) := by decide +kernel
theorem dL_law_383 : decode cL_law 383 = .ok (.iload 5, 2) := by decide +kernel
theorem dL_law_385 : decode cL_law 385 = .ok (.iconst 1, 1) := by decide +kernel
theorem dL_law_386 : decode cL_law 386 = .ok (.iadd, 1) := by decide +kernel
theorem dL_law_387 : decode cL_law 387 = .ok (.iaload, 1) := by decide +kernel
theorem dL_law_388 : decode cL_law 388 = .ok (.aload_n 0, 1) := by decide +kernel
theorem dL_law_389 : decode cL_law 389 = .ok (.iload 5, 2) := by decide +kernel
theorem dL_law_391 : decode cL_law 391 = .ok (.iconst 2, 1) := by decide +kernel
theorem dL_law_392 : decode cL_law 392 = .ok (.iadd, 1) := by decide +kernel
theorem dL_law_393 : decode cL_law 393 = .ok (.iaload, 1) := by decide +kernel
theorem dL_law_394 : decode cL_law 394 = .ok (.aload_n 3, 1) := by decide +kernel
theorem dL_law_395 : decode cL_law 395 = .ok (.invokestatic 85, 3) := by decide +kernel
theorem dL_law_398 : decode cL_law 398 = .ok (.istore 6, 2) := by decide +kernel
theorem dL_law_400 : decode cL_law 400 = .ok (.aload_n 2, 1) := by decide +kernel
theorem dL_law_401 : decode cL_law 401 = .ok (.aload_n 0, 1) := by decide +kernel
theorem dL_law_402 : decode cL_law 402 = .ok (.iload 5, 2) := by decide +kernel
theorem dL_law_404 : decode cL_law 404 = .ok (.iconst 1, 1) := by decide +kernel
theorem dL_law_405 : decode cL_law 405 = .ok (.iadd, 1) := by decide +kernel
theorem dL_law_406 : decode cL_law 406 = .ok (.iaload, 1) := by decide +kernel
theorem dL_law_407 : decode cL_law 407 = .ok (.aload_n 0, 1) := by decide +kernel
theorem dL_law_408 : decode cL_law 408 = .ok (.iload 5, 2) := by decide +kernel
theorem dL_law_410 : decode cL_law 410 = .ok (.iconst 2, 1) := by decide +kernel
theorem dL_law_411 : decode cL_law 411 = .ok (.iadd, 1) := by decide +kernel
theorem dL_law_412 : decode cL_law 412 = .ok (.iaload, 1) := by decide +kernel
theorem dL_law_413 : decode cL_law 413 = .ok (.invokevirtual 87, 3) := by decide +kernel
theorem dL_law_416 : decode cL_law 416 = .ok (.istore 7, 2) := by decide +kernel
theorem dL_law_418 : decode cL_law 418 = .ok (.aload_n 2, 1) := by decide +kernel
theorem dL_law_419 : decode cL_law 419 = .ok (.invokevirtual 66, 3) := by decide +kernel
theorem dL_law_422 : decode cL_law 422 = .ok (.iload 6, 2) := by decide +kernel
theorem dL_law_424 : decode cL_law 424 = .ok (.if_icmp .eq 5, 3) := by decide +kernel
theorem dL_law_427 : decode cL_law 427 = .ok (.iconst 0, 1) := by decide +kernel
theorem dL_law_428 : decode cL_law 428 = .ok (.ireturn, 1) := by decide +kernel
theorem dL_law_429 : decode cL_law 429 = .ok (.iload 6, 2) := by decide +kernel
theorem dL_law_431 : decode cL_law 431 = .ok (.ifCond .ne 15, 3) := by decide +kernel
theorem dL_law_434 : decode cL_law 434 = .ok (.aload_n 3, 1) := by decide +kernel
theorem dL_law_435 : decode cL_law 435 = .ok (.iconst 0, 1) := by decide +kernel
theorem dL_law_436 : decode cL_law 436 = .ok (.laload, 1) := by decide +kernel
theorem dL_law_437 : decode cL_law 437 = .ok (.iload 7, 2) := by decide +kernel
theorem dL_law_439 : decode cL_law 439 = .ok (.i2l, 1) := by decide +kernel
theorem dL_law_440 : decode cL_law 440 = .ok (.lcmp, 1) := by decide +kernel
theorem dL_law_441 : decode cL_law 441 = .ok (.ifCond .eq 5, 3) := by decide +kernel
theorem dL_law_444 : decode cL_law 444 = .ok (.iconst 0, 1) := by decide +kernel
theorem dL_law_445 : decode cL_law 445 = .ok (.ireturn, 1) := by decide +kernel
theorem dL_law_446 : decode cL_law 446 = .ok (.goto 460, 3) := by decide +kernel
theorem dL_law_449 : decode cL_law 449 = .ok (.aload_n 1, 1) := by decide +kernel
theorem dL_law_450 : decode cL_law 450 = .ok (.aload_n 0, 1) := by decide +kernel
theorem dL_law_451 : decode cL_law 451 = .ok (.iload 5, 2) := by decide +kernel
theorem dL_law_453 : decode cL_law 453 = .ok (.iconst 1, 1) := by decide +kernel
theorem dL_law_454 : decode cL_law 454 = .ok (.iadd, 1) := by decide +kernel
theorem dL_law_455 : decode cL_law 455 = .ok (.iaload, 1) := by decide +kernel
theorem dL_law_456 : decode cL_law 456 = .ok (.aload_n 0, 1) := by decide +kernel
theorem dL_law_457 : decode cL_law 457 = .ok (.iload 5, 2) := by decide +kernel
theorem dL_law_459 : decode cL_law 459 = .ok (.iconst 2, 1) := by decide +kernel
theorem dL_law_460 : decode cL_law 460 = .ok (.iadd, 1) := by decide +kernel
theorem dL_law_461 : decode cL_law 461 = .ok (.iaload, 1) := by decide +kernel
theorem dL_law_462 : decode cL_law 462 = .ok (.aload_n 3, 1) := by decide +kernel
theorem dL_law_463 : decode cL_law 463 = .ok (.invokestatic 88, 3) := by decide +kernel
theorem dL_law_466 : decode cL_law 466 = .ok (.istore 6, 2) := by decide +kernel
theorem dL_law_468 : decode cL_law 468 = .ok (.aload_n 2, 1) := by decide +kernel
theorem dL_law_469 : decode cL_law 469 = .ok (.aload_n 0, 1) := by decide +kernel
theorem dL_law_470 : decode cL_law 470 = .ok (.iload 5, 2) := by decide +kernel
theorem dL_law_472 : decode cL_law 472 = .ok (.iconst 1, 1) := by decide +kernel
theorem dL_law_473 : decode cL_law 473 = .ok (.iadd, 1) := by decide +kernel
theorem dL_law_474 : decode cL_law 474 = .ok (.iaload, 1) := by decide +kernel
theorem dL_law_475 : decode cL_law 475 = .ok (.aload_n 0, 1) := by decide +kernel
theorem dL_law_476 : decode cL_law 476 = .ok (.iload 5, 2) := by decide +kernel
theorem dL_law_478 : decode cL_law 478 = .ok (.iconst 2, 1) := by decide +kernel
theorem dL_law_479 : decode cL_law 479 = .ok (.iadd, 1) := by decide +kernel
theorem dL_law_480 : decode cL_law 480 = .ok (.iaload, 1) := by decide +kernel
theorem dL_law_481 : decode cL_law 481 = .ok (.invokevirtual 90, 3) := by decide +kernel
theorem dL_law_484 : decode cL_law 484 = .ok (.istore 7, 2) := by decide +kernel
theorem dL_law_486 : decode cL_law 486 = .ok (.aload_n 2, 1) := by decide +kernel
theorem dL_law_487 : decode cL_law 487 = .ok (.invokevirtual 66, 3) := by decide +kernel
theorem dL_law_490 : decode cL_law 490 = .ok (.iload 6, 2) := by decide +kernel
theorem dL_law_492 : decode cL_law 492 = .ok (.if_icmp .eq 5, 3) := by decide +kernel
theorem dL_law_495 : decode cL_law 495 = .ok (.iconst 0, 1) := by decide +kernel
theorem dL_law_496 : decode cL_law 496 = .ok (.ireturn, 1) := by decide +kernel
theorem dL_law_497 : decode cL_law 497 = .ok (.iload 6, 2) := by decide +kernel
theorem dL_law_499 : decode cL_law 499 = .ok (.ifCond .ne 15, 3) := by decide +kernel
theorem dL_law_502 : decode cL_law 502 = .ok (.aload_n 3, 1) := by decide +kernel
theorem dL_law_503 : decode cL_law 503 = .ok (.iconst 0, 1) := by decide +kernel
theorem dL_law_504 : decode cL_law 504 = .ok (.laload, 1) := by decide +kernel
theorem dL_law_505 : decode cL_law 505 = .ok (.iload 7, 2) := by decide +kernel
theorem dL_law_507 : decode cL_law 507 = .ok (.i2l, 1) := by decide +kernel
theorem dL_law_508 : decode cL_law 508 = .ok (.lcmp, 1) := by decide +kernel
theorem dL_law_509 : decode cL_law 509 = .ok (.ifCond .eq 5, 3) := by decide +kernel
theorem dL_law_512 : decode cL_law 512 = .ok (.iconst 0, 1) := by decide +kernel
theorem dL_law_513 : decode cL_law 513 = .ok (.ireturn, 1) := by decide +kernel
theorem dL_law_514 : decode cL_law 514 = .ok (.goto 392, 3) := by decide +kernel
theorem dL_law_517 : decode cL_law 517 = .ok (.aload_n 1, 1) := by decide +kernel
theorem dL_law_518 : decode cL_law 518 = .ok (.aload_n 0, 1) := by decide +kernel
theorem dL_law_519 : decode cL_law 519 = .ok (.iload 5, 2) := by decide +kernel
theorem dL_law_521 : decode cL_law 521 = .ok (.iconst 1, 1) := by decide +kernel
theorem dL_law_522 : decode cL_law 522 = .ok (.iadd, 1) := by decide +kernel
theorem dL_law_523 : decode cL_law 523 = .ok (.iaload, 1) := by decide +kernel
theorem dL_law_524 : decode cL_law 524 = .ok (.aload_n 0, 1) := by decide +kernel
theorem dL_law_525 : decode cL_law 525 = .ok (.iload 5, 2) := by decide +kernel
theorem dL_law_527 : decode cL_law 527 = .ok (.iconst 2, 1) := by decide +kernel
theorem dL_law_528 : decode cL_law 528 = .ok (.iadd, 1) := by decide +kernel
theorem dL_law_529 : decode cL_law 529 = .ok (.iaload, 1) := by decide +kernel
theorem dL_law_530 : decode cL_law 530 = .ok (.aload_n 0, 1) := by decide +kernel
theorem dL_law_531 : decode cL_law 531 = .ok (.iload 5, 2) := by decide +kernel
theorem dL_law_533 : decode cL_law 533 = .ok (.iconst 3, 1) := by decide +kernel
theorem dL_law_534 : decode cL_law 534 = .ok (.iadd, 1) := by decide +kernel
theorem dL_law_535 : decode cL_law 535 = .ok (.iaload, 1) := by decide +kernel
theorem dL_law_536 : decode cL_law 536 = .ok (.ifCond .eq 7, 3) := by decide +kernel
theorem dL_law_539 : decode cL_law 539 = .ok (.iconst 1, 1) := by decide +kernel
theorem dL_law_540 : decode cL_law 540 = .ok (.goto 4, 3) := by decide +kernel
theorem dL_law_543 : decode cL_law 543 = .ok (.iconst 0, 1) := by decide +kernel
theorem dL_law_544 : decode cL_law 544 = .ok (.aload_n 3, 1) := by decide +kernel
theorem dL_law_545 : decode cL_law 545 = .ok (.invokestatic 91, 3) := by decide +kernel
theorem dL_law_548 : decode cL_law 548 = .ok (.istore 6, 2) := by decide +kernel
theorem dL_law_550 : decode cL_law 550 = .ok (.aload_n 2, 1) := by decide +kernel
theorem dL_law_551 : decode cL_law 551 = .ok (.aload_n 0, 1) := by decide +kernel
theorem dL_law_552 : decode cL_law 552 = .ok (.iload 5, 2) := by decide +kernel
theorem dL_law_554 : decode cL_law 554 = .ok (.iconst 1, 1) := by decide +kernel
theorem dL_law_555 : decode cL_law 555 = .ok (.iadd, 1) := by decide +kernel
theorem dL_law_556 : decode cL_law 556 = .ok (.iaload, 1) := by decide +kernel
theorem dL_law_557 : decode cL_law 557 = .ok (.aload_n 0, 1) := by decide +kernel
theorem dL_law_558 : decode cL_law 558 = .ok (.iload 5, 2) := by decide +kernel
theorem dL_law_560 : decode cL_law 560 = .ok (.iconst 2, 1) := by decide +kernel
theorem dL_law_561 : decode cL_law 561 = .ok (.iadd, 1) := by decide +kernel
theorem dL_law_562 : decode cL_law 562 = .ok (.iaload, 1) := by decide +kernel
theorem dL_law_563 : decode cL_law 563 = .ok (.aload_n 0, 1) := by decide +kernel
theorem dL_law_564 : decode cL_law 564 = .ok (.iload 5, 2) := by decide +kernel
theorem dL_law_566 : decode cL_law 566 = .ok (.iconst 3, 1) := by decide +kernel
theorem dL_law_567 : decode cL_law 567 = .ok (.iadd, 1) := by decide +kernel
theorem dL_law_568 : decode cL_law 568 = .ok (.iaload, 1) := by decide +kernel
theorem dL_law_569 : decode cL_law 569 = .ok (.ifCond .eq 7, 3) := by decide +kernel
theorem dL_law_572 : decode cL_law 572 = .ok (.iconst 1, 1) := by decide +kernel
theorem dL_law_573 : decode cL_law 573 = .ok (.goto 4, 3) := by decide +kernel
theorem dL_law_576 : decode cL_law 576 = .ok (.iconst 0, 1) := by decide +kernel
theorem dL_law_577 : decode cL_law 577 = .ok (.invokevirtual 94, 3) := by decide +kernel
theorem dL_law_580 : decode cL_law 580 = .ok (.istore 7, 2) := by decide +kernel
theorem dL_law_582 : decode cL_law 582 = .ok (.aload_n 2, 1) := by decide +kernel
theorem dL_law_583 : decode cL_law 583 = .ok (.invokevirtual 66, 3) := by decide +kernel
theorem dL_law_586 : decode cL_law 586 = .ok (.iload 6, 2) := by decide +kernel
theorem dL_law_588 : decode cL_law 588 = .ok (.if_icmp .eq 5, 3) := by decide +kernel
theorem dL_law_591 : decode cL_law 591 = .ok (.iconst 0, 1) := by decide +kernel
theorem dL_law_592 : decode cL_law 592 = .ok (.ireturn, 1) := by decide +kernel
theorem dL_law_593 : decode cL_law 593 = .ok (.iload 6, 2) := by decide +kernel
theorem dL_law_595 : decode cL_law 595 = .ok (.ifCond .ne 15, 3) := by decide +kernel
theorem dL_law_598 : decode cL_law 598 = .ok (.aload_n 3, 1) := by decide +kernel
theorem dL_law_599 : decode cL_law 599 = .ok (.iconst 0, 1) := by decide +kernel
theorem dL_law_600 : decode cL_law 600 = .ok (.laload, 1) := by decide +kernel
theorem dL_law_601 : decode cL_law 601 = .ok (.iload 7, 2) := by decide +kernel
theorem dL_law_603 : decode cL_law 603 = .ok (.i2l, 1) := by decide +kernel
theorem dL_law_604 : decode cL_law 604 = .ok (.lcmp, 1) := by decide +kernel
theorem dL_law_605 : decode cL_law 605 = .ok (.ifCond .eq 5, 3) := by decide +kernel
theorem dL_law_608 : decode cL_law 608 = .ok (.iconst 0, 1) := by decide +kernel
theorem dL_law_609 : decode cL_law 609 = .ok (.ireturn, 1) := by decide +kernel
theorem dL_law_610 : decode cL_law 610 = .ok (.goto 296, 3) := by decide +kernel
theorem dL_law_613 : decode cL_law 613 = .ok (.aload_n 1, 1) := by decide +kernel
theorem dL_law_614 : decode cL_law 614 = .ok (.aload_n 0, 1) := by decide +kernel
theorem dL_law_615 : decode cL_law 615 = .ok (.iload 5, 2) := by decide +kernel
theorem dL_law_617 : decode cL_law 617 = .ok (.iconst 1, 1) := by decide +kernel
theorem dL_law_618 : decode cL_law 618 = .ok (.iadd, 1) := by decide +kernel
theorem dL_law_619 : decode cL_law 619 = .ok (.iaload, 1) := by decide +kernel
theorem dL_law_620 : decode cL_law 620 = .ok (.aload_n 3, 1) := by decide +kernel
theorem dL_law_621 : decode cL_law 621 = .ok (.invokestatic 95, 3) := by decide +kernel
theorem dL_law_624 : decode cL_law 624 = .ok (.istore 6, 2) := by decide +kernel
theorem dL_law_626 : decode cL_law 626 = .ok (.aload_n 2, 1) := by decide +kernel
theorem dL_law_627 : decode cL_law 627 = .ok (.aload_n 0, 1) := by decide +kernel
theorem dL_law_628 : decode cL_law 628 = .ok (.iload 5, 2) := by decide +kernel
theorem dL_law_630 : decode cL_law 630 = .ok (.iconst 1, 1) := by decide +kernel
theorem dL_law_631 : decode cL_law 631 = .ok (.iadd, 1) := by decide +kernel
theorem dL_law_632 : decode cL_law 632 = .ok (.iaload, 1) := by decide +kernel
theorem dL_law_633 : decode cL_law 633 = .ok (.invokevirtual 97, 3) := by decide +kernel
theorem dL_law_636 : decode cL_law 636 = .ok (.istore 7, 2) := by decide +kernel
theorem dL_law_638 : decode cL_law 638 = .ok (.aload_n 2, 1) := by decide +kernel
theorem dL_law_639 : decode cL_law 639 = .ok (.invokevirtual 66, 3) := by decide +kernel
theorem dL_law_642 : decode cL_law 642 = .ok (.iload 6, 2) := by decide +kernel
theorem dL_law_644 : decode cL_law 644 = .ok (.if_icmp .eq 5, 3) := by decide +kernel
theorem dL_law_647 : decode cL_law 647 = .ok (.iconst 0, 1) := by decide +kernel
theorem dL_law_648 : decode cL_law 648 = .ok (.ireturn, 1) := by decide +kernel
theorem dL_law_649 : decode cL_law 649 = .ok (.iload 6, 2) := by decide +kernel
theorem dL_law_651 : decode cL_law 651 = .ok (.ifCond .ne 15, 3) := by decide +kernel
theorem dL_law_654 : decode cL_law 654 = .ok (.aload_n 3, 1) := by decide +kernel
theorem dL_law_655 : decode cL_law 655 = .ok (.iconst 0, 1) := by decide +kernel
theorem dL_law_656 : decode cL_law 656 = .ok (.laload, 1) := by decide +kernel
theorem dL_law_657 : decode cL_law 657 = .ok (.iload 7, 2) := by decide +kernel
theorem dL_law_659 : decode cL_law 659 = .ok (.i2l, 1) := by decide +kernel
theorem dL_law_660 : decode cL_law 660 = .ok (.lcmp, 1) := by decide +kernel
theorem dL_law_661 : decode cL_law 661 = .ok (.ifCond .eq 5, 3) := by decide +kernel
theorem dL_law_664 : decode cL_law 664 = .ok (.iconst 0, 1) := by decide +kernel
theorem dL_law_665 : decode cL_law 665 = .ok (.ireturn, 1) := by decide +kernel
theorem dL_law_666 : decode cL_law 666 = .ok (.goto 240, 3) := by decide +kernel
theorem dL_law_669 : decode cL_law 669 = .ok (.aload_n 1, 1) := by decide +kernel
theorem dL_law_670 : decode cL_law 670 = .ok (.aload_n 0, 1) := by decide +kernel
theorem dL_law_671 : decode cL_law 671 = .ok (.iload 5, 2) := by decide +kernel
theorem dL_law_673 : decode cL_law 673 = .ok (.iconst 1, 1) := by decide +kernel
theorem dL_law_674 : decode cL_law 674 = .ok (.iadd, 1) := by decide +kernel
theorem dL_law_675 : decode cL_law 675 = .ok (.iaload, 1) := by decide +kernel
theorem dL_law_676 : decode cL_law 676 = .ok (.aload_n 0, 1) := by decide +kernel
theorem dL_law_677 : decode cL_law 677 = .ok (.iload 5, 2) := by decide +kernel
theorem dL_law_679 : decode cL_law 679 = .ok (.iconst 2, 1) := by decide +kernel
theorem dL_law_680 : decode cL_law 680 = .ok (.iadd, 1) := by decide +kernel
theorem dL_law_681 : decode cL_law 681 = .ok (.iaload, 1) := by decide +kernel
theorem dL_law_682 : decode cL_law 682 = .ok (.aload_n 3, 1) := by decide +kernel
theorem dL_law_683 : decode cL_law 683 = .ok (.invokestatic 98, 3) := by decide +kernel
theorem dL_law_686 : decode cL_law 686 = .ok (.istore 6, 2) := by decide +kernel
theorem dL_law_688 : decode cL_law 688 = .ok (.aload_n 2, 1) := by decide +kernel
theorem dL_law_689 : decode cL_law 689 = .ok (.aload_n 0, 1) := by decide +kernel
theorem dL_law_690 : decode cL_law 690 = .ok (.iload 5, 2) := by decide +kernel
theorem dL_law_692 : decode cL_law 692 = .ok (.iconst 1, 1) := by decide +kernel
theorem dL_law_693 : decode cL_law 693 = .ok (.iadd, 1) := by decide +kernel
theorem dL_law_694 : decode cL_law 694 = .ok (.iaload, 1) := by decide +kernel
theorem dL_law_695 : decode cL_law 695 = .ok (.aload_n 0, 1) := by decide +kernel
theorem dL_law_696 : decode cL_law 696 = .ok (.iload 5, 2) := by decide +kernel
theorem dL_law_698 : decode cL_law 698 = .ok (.iconst 2, 1) := by decide +kernel
theorem dL_law_699 : decode cL_law 699 = .ok (.iadd, 1) := by decide +kernel
theorem dL_law_700 : decode cL_law 700 = .ok (.iaload, 1) := by decide +kernel
theorem dL_law_701 : decode cL_law 701 = .ok (.invokevirtual 100, 3) := by decide +kernel
theorem dL_law_704 : decode cL_law 704 = .ok (.istore 7, 2) := by decide +kernel
theorem dL_law_706 : decode cL_law 706 = .ok (.aload_n 2, 1) := by decide +kernel
theorem dL_law_707 : decode cL_law 707 = .ok (.invokevirtual 66, 3) := by decide +kernel
theorem dL_law_710 : decode cL_law 710 = .ok (.iload 6, 2) := by decide +kernel
theorem dL_law_712 : decode cL_law 712 = .ok (.if_icmp .eq 5, 3) := by decide +kernel
theorem dL_law_715 : decode cL_law 715 = .ok (.iconst 0, 1) := by decide +kernel
theorem dL_law_716 : decode cL_law 716 = .ok (.ireturn, 1) := by decide +kernel
theorem dL_law_717 : decode cL_law 717 = .ok (.iload 6, 2) := by decide +kernel
theorem dL_law_719 : decode cL_law 719 = .ok (.ifCond .ne 15, 3) := by decide +kernel
theorem dL_law_722 : decode cL_law 722 = .ok (.aload_n 3, 1) := by decide +kernel
theorem dL_law_723 : decode cL_law 723 = .ok (.iconst 0, 1) := by decide +kernel
theorem dL_law_724 : decode cL_law 724 = .ok (.laload, 1) := by decide +kernel
theorem dL_law_725 : decode cL_law 725 = .ok (.iload 7, 2) := by decide +kernel
theorem dL_law_727 : decode cL_law 727 = .ok (.i2l, 1) := by decide +kernel
theorem dL_law_728 : decode cL_law 728 = .ok (.lcmp, 1) := by decide +kernel
theorem dL_law_729 : decode cL_law 729 = .ok (.ifCond .eq 5, 3) := by decide +kernel
theorem dL_law_732 : decode cL_law 732 = .ok (.iconst 0, 1) := by decide +kernel
theorem dL_law_733 : decode cL_law 733 = .ok (.ireturn, 1) := by decide +kernel
theorem dL_law_734 : decode cL_law 734 = .ok (.goto 172, 3) := by decide +kernel
theorem dL_law_737 : decode cL_law 737 = .ok (.aload_n 1, 1) := by decide +kernel
theorem dL_law_738 : decode cL_law 738 = .ok (.aload_n 0, 1) := by decide +kernel
theorem dL_law_739 : decode cL_law 739 = .ok (.iload 5, 2) := by decide +kernel
theorem dL_law_741 : decode cL_law 741 = .ok (.iconst 1, 1) := by decide +kernel
theorem dL_law_742 : decode cL_law 742 = .ok (.iadd, 1) := by decide +kernel
theorem dL_law_743 : decode cL_law 743 = .ok (.iaload, 1) := by decide +kernel
theorem dL_law_744 : decode cL_law 744 = .ok (.aload_n 0, 1) := by decide +kernel
theorem dL_law_745 : decode cL_law 745 = .ok (.iload 5, 2) := by decide +kernel
theorem dL_law_747 : decode cL_law 747 = .ok (.iconst 2, 1) := by decide +kernel
theorem dL_law_748 : decode cL_law 748 = .ok (.iadd, 1) := by decide +kernel
theorem dL_law_749 : decode cL_law 749 = .ok (.iaload, 1) := by decide +kernel
theorem dL_law_750 : decode cL_law 750 = .ok (.aload_n 0, 1) := by decide +kernel
theorem dL_law_751 : decode cL_law 751 = .ok (.iload 5, 2) := by decide +kernel
theorem dL_law_753 : decode cL_law 753 = .ok (.iconst 3, 1) := by decide +kernel
theorem dL_law_754 : decode cL_law 754 = .ok (.iadd, 1) := by decide +kernel
theorem dL_law_755 : decode cL_law 755 = .ok (.iaload, 1) := by decide +kernel
theorem dL_law_756 : decode cL_law 756 = .ok (.aload_n 0, 1) := by decide +kernel
theorem dL_law_757 : decode cL_law 757 = .ok (.iload 5, 2) := by decide +kernel
theorem dL_law_759 : decode cL_law 759 = .ok (.iconst 4, 1) := by decide +kernel
theorem dL_law_760 : decode cL_law 760 = .ok (.iadd, 1) := by decide +kernel
theorem dL_law_761 : decode cL_law 761 = .ok (.iaload, 1) := by decide +kernel
theorem dL_law_762 : decode cL_law 762 = .ok (.aload_n 3, 1) := by decide +kernel
theorem dL_law_763 : decode cL_law 763 = .ok (.invokestatic 101, 3) := by decide +kernel
theorem dL_law_766 : decode cL_law 766 = .ok (.istore 6, 2) := by decide +kernel
theorem dL_law_768 : decode cL_law 768 = .ok (.aload_n 2, 1) := by decide +kernel
theorem dL_law_769 : decode cL_law 769 = .ok (.aload_n 0, 1) := by decide +kernel
theorem dL_law_770 : decode cL_law 770 = .ok (.iload 5, 2) := by decide +kernel
theorem dL_law_772 : decode cL_law 772 = .ok (.iconst 1, 1) := by decide +kernel
theorem dL_law_773 : decode cL_law 773 = .ok (.iadd, 1) := by decide +kernel
theorem dL_law_774 : decode cL_law 774 = .ok (.iaload, 1) := by decide +kernel
theorem dL_law_775 : decode cL_law 775 = .ok (.aload_n 0, 1) := by decide +kernel
theorem dL_law_776 : decode cL_law 776 = .ok (.iload 5, 2) := by decide +kernel
theorem dL_law_778 : decode cL_law 778 = .ok (.iconst 2, 1) := by decide +kernel
theorem dL_law_779 : decode cL_law 779 = .ok (.iadd, 1) := by decide +kernel
theorem dL_law_780 : decode cL_law 780 = .ok (.iaload, 1) := by decide +kernel
theorem dL_law_781 : decode cL_law 781 = .ok (.aload_n 0, 1) := by decide +kernel
theorem dL_law_782 : decode cL_law 782 = .ok (.iload 5, 2) := by decide +kernel
theorem dL_law_784 : decode cL_law 784 = .ok (.iconst 3, 1) := by decide +kernel
theorem dL_law_785 : decode cL_law 785 = .ok (.iadd, 1) := by decide +kernel
theorem dL_law_786 : decode cL_law 786 = .ok (.iaload, 1) := by decide +kernel
theorem dL_law_787 : decode cL_law 787 = .ok (.aload_n 0, 1) := by decide +kernel
theorem dL_law_788 : decode cL_law 788 = .ok (.iload 5, 2) := by decide +kernel
theorem dL_law_790 : decode cL_law 790 = .ok (.iconst 4, 1) := by decide +kernel
theorem dL_law_791 : decode cL_law 791 = .ok (.iadd, 1) := by decide +kernel
theorem dL_law_792 : decode cL_law 792 = .ok (.iaload, 1) := by decide +kernel
theorem dL_law_793 : decode cL_law 793 = .ok (.invokevirtual 104, 3) := by decide +kernel
theorem dL_law_796 : decode cL_law 796 = .ok (.istore 7, 2) := by decide +kernel
theorem dL_law_798 : decode cL_law 798 = .ok (.aload_n 2, 1) := by decide +kernel
theorem dL_law_799 : decode cL_law 799 = .ok (.invokevirtual 66, 3) := by decide +kernel
theorem dL_law_802 : decode cL_law 802 = .ok (.iload 6, 2) := by decide +kernel
theorem dL_law_804 : decode cL_law 804 = .ok (.if_icmp .eq 5, 3) := by decide +kernel
theorem dL_law_807 : decode cL_law 807 = .ok (.iconst 0, 1) := by decide +kernel
theorem dL_law_808 : decode cL_law 808 = .ok (.ireturn, 1) := by decide +kernel
theorem dL_law_809 : decode cL_law 809 = .ok (.iload 6, 2) := by decide +kernel
theorem dL_law_811 : decode cL_law 811 = .ok (.ifCond .ne 15, 3) := by decide +kernel
theorem dL_law_814 : decode cL_law 814 = .ok (.aload_n 3, 1) := by decide +kernel
theorem dL_law_815 : decode cL_law 815 = .ok (.iconst 0, 1) := by decide +kernel
theorem dL_law_816 : decode cL_law 816 = .ok (.laload, 1) := by decide +kernel
theorem dL_law_817 : decode cL_law 817 = .ok (.iload 7, 2) := by decide +kernel
theorem dL_law_819 : decode cL_law 819 = .ok (.i2l, 1) := by decide +kernel
theorem dL_law_820 : decode cL_law 820 = .ok (.lcmp, 1) := by decide +kernel
theorem dL_law_821 : decode cL_law 821 = .ok (.ifCond .eq 5, 3) := by decide +kernel
theorem dL_law_824 : decode cL_law 824 = .ok (.iconst 0, 1) := by decide +kernel
theorem dL_law_825 : decode cL_law 825 = .ok (.ireturn, 1) := by decide +kernel
theorem dL_law_826 : decode cL_law 826 = .ok (.goto 80, 3) := by decide +kernel
theorem dL_law_829 : decode cL_law 829 = .ok (.aload_n 1, 1) := by decide +kernel
theorem dL_law_830 : decode cL_law 830 = .ok (.aload_n 0, 1) := by decide +kernel
theorem dL_law_831 : decode cL_law 831 = .ok (.iload 5, 2) := by decide +kernel
theorem dL_law_833 : decode cL_law 833 = .ok (.iconst 1, 1) := by decide +kernel
theorem dL_law_834 : decode cL_law 834 = .ok (.iadd, 1) := by decide +kernel
theorem dL_law_835 : decode cL_law 835 = .ok (.iaload, 1) := by decide +kernel
theorem dL_law_836 : decode cL_law 836 = .ok (.aload 4, 2) := by decide +kernel
theorem dL_law_838 : decode cL_law 838 = .ok (.invokestatic 105, 3) := by decide +kernel
theorem dL_law_841 : decode cL_law 841 = .ok (.istore 6, 2) := by decide +kernel
theorem dL_law_843 : decode cL_law 843 = .ok (.aload_n 2, 1) := by decide +kernel
theorem dL_law_844 : decode cL_law 844 = .ok (.aload_n 0, 1) := by decide +kernel
theorem dL_law_845 : decode cL_law 845 = .ok (.iload 5, 2) := by decide +kernel
theorem dL_law_847 : decode cL_law 847 = .ok (.iconst 1, 1) := by decide +kernel
theorem dL_law_848 : decode cL_law 848 = .ok (.iadd, 1) := by decide +kernel
theorem dL_law_849 : decode cL_law 849 = .ok (.iaload, 1) := by decide +kernel
theorem dL_law_850 : decode cL_law 850 = .ok (.invokevirtual 108, 3) := by decide +kernel
theorem dL_law_853 : decode cL_law 853 = .ok (.dstore 7, 2) := by decide +kernel
theorem dL_law_855 : decode cL_law 855 = .ok (.aload_n 2, 1) := by decide +kernel
theorem dL_law_856 : decode cL_law 856 = .ok (.invokevirtual 66, 3) := by decide +kernel
theorem dL_law_859 : decode cL_law 859 = .ok (.iload 6, 2) := by decide +kernel
theorem dL_law_861 : decode cL_law 861 = .ok (.if_icmp .eq 5, 3) := by decide +kernel
theorem dL_law_864 : decode cL_law 864 = .ok (.iconst 0, 1) := by decide +kernel
theorem dL_law_865 : decode cL_law 865 = .ok (.ireturn, 1) := by decide +kernel
theorem dL_law_866 : decode cL_law 866 = .ok (.iload 6, 2) := by decide +kernel
theorem dL_law_868 : decode cL_law 868 = .ok (.ifCond .ne 35, 3) := by decide +kernel
theorem dL_law_871 : decode cL_law 871 = .ok (.aload 4, 2) := by decide +kernel
theorem dL_law_873 : decode cL_law 873 = .ok (.iconst 0, 1) := by decide +kernel
theorem dL_law_874 : decode cL_law 874 = .ok (.daload, 1) := by decide +kernel
theorem dL_law_875 : decode cL_law 875 = .ok (.dload 7, 2) := by decide +kernel
theorem dL_law_877 : decode cL_law 877 = .ok (.dcmp .l, 1) := by decide +kernel
theorem dL_law_878 : decode cL_law 878 = .ok (.ifCond .eq 25, 3) := by decide +kernel
theorem dL_law_881 : decode cL_law 881 = .ok (.aload 4, 2) := by decide +kernel
theorem dL_law_883 : decode cL_law 883 = .ok (.iconst 0, 1) := by decide +kernel
theorem dL_law_884 : decode cL_law 884 = .ok (.daload, 1) := by decide +kernel
theorem dL_law_885 : decode cL_law 885 = .ok (.aload 4, 2) := by decide +kernel
theorem dL_law_887 : decode cL_law 887 = .ok (.iconst 0, 1) := by decide +kernel
theorem dL_law_888 : decode cL_law 888 = .ok (.daload, 1) := by decide +kernel
theorem dL_law_889 : decode cL_law 889 = .ok (.dcmp .l, 1) := by decide +kernel
theorem dL_law_890 : decode cL_law 890 = .ok (.ifCond .eq 11, 3) := by decide +kernel
theorem dL_law_893 : decode cL_law 893 = .ok (.dload 7, 2) := by decide +kernel
theorem dL_law_895 : decode cL_law 895 = .ok (.dload 7, 2) := by decide +kernel
theorem dL_law_897 : decode cL_law 897 = .ok (.dcmp .l, 1) := by decide +kernel
theorem dL_law_898 : decode cL_law 898 = .ok (.ifCond .ne 5, 3) := by decide +kernel
theorem dL_law_901 : decode cL_law 901 = .ok (.iconst 0, 1) := by decide +kernel
theorem dL_law_902 : decode cL_law 902 = .ok (.ireturn, 1) := by decide +kernel
theorem dL_law_903 : decode cL_law 903 = .ok (.goto 3, 3) := by decide +kernel
theorem dL_law_906 : decode cL_law 906 = .ok (.iinc 5 5, 3) := by decide +kernel
theorem dL_law_909 : decode cL_law 909 = .ok (.goto (-881), 3) := by decide +kernel
theorem dL_law_912 : decode cL_law 912 = .ok (.iconst 1, 1) := by decide +kernel
theorem dL_law_913 : decode cL_law 913 = .ok (.ireturn, 1) := by decide +kernel
