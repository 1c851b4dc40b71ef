set_option maxRecDepth 20000 in
theorem ggX9_init_X1_init : GoodIn wsX9_init wsX1_init := goodIn_r _ [20, 21, 2, 3, 16, 22, 23, 24, 25, 42, 43, 44, 45] (by decide +kernel) (by decide +kernel)
set_option maxRecDepth 20000 in
theorem gX9_init_X1_init_n11 : GoodIn wsX9_init (wsX1_init) := ggX9_init_X1_init
set_option maxRecDepth 20000 in
theorem ggX9_init_X3_init : GoodIn wsX9_init wsX3_init := goodIn_r _ [27, 28, 2, 3, 16, 29, 30, 31, 53, 54, 55, 56] (by decide +kernel) (by decide +kernel)
set_option maxRecDepth 20000 in
theorem gX9_init_X3_init_n20 : GoodIn wsX9_init (wsX3_init) := ggX9_init_X3_init
set_option maxRecDepth 20000 in
theorem ggX9_init_X0_init : GoodIn wsX9_init wsX0_init := goodIn_r _ [34, 35, 2, 3, 36, 37, 38, 39, 16, 40, 23, 41, 57, 58, 59] (by decide +kernel) (by decide +kernel)
set_option maxRecDepth 20000 in
theorem gX9_init_X0_init : GoodIn wsX9_init (wsX0_init) := ggX9_init_X0_init
theorem dX9_init_0 : decode cX9_init 0 = .ok (.aload_n 0, 1) := by decide +kernel
theorem dX9_init_1 : decode cX9_init 1 = .ok (.invokespecial 3, 3) := by decide +kernel
theorem dX9_init_4 : decode cX9_init 4 = .ok (.aload_n 0, 1) := by decide +kernel
theorem dX9_init_5 : decode cX9_init 5 = .ok (.new 9, 3) := by decide +kernel
theorem dX9_init_8 : decode cX9_init 8 = .ok (.dup, 1) := by decide +kernel
theorem dX9_init_9 : decode cX9_init 9 = .ok (.invokespecial 11, 3) := by decide +kernel
theorem dX9_init_12 : decode cX9_init 12 = .ok (.putfield 12, 3) := by decide +kernel
theorem dX9_init_15 : decode cX9_init 15 = .ok (.aload_n 0, 1) := by decide +kernel
theorem dX9_init_16 : decode cX9_init 16 = .ok (.new 18, 3) := by decide +kernel
theorem dX9_init_19 : decode cX9_init 19 = .ok (.dup, 1) := by decide +kernel
theorem dX9_init_20 : decode cX9_init 20 = .ok (.invokespecial 20, 3) := by decide +kernel
theorem dX9_init_23 : decode cX9_init 23 = .ok (.putfield 21, 3) := by decide +kernel
theorem dX9_init_26 : decode cX9_init 26 = .ok (.aload_n 0, 1) := by decide +kernel
theorem dX9_init_27 : decode cX9_init 27 = .ok (.new 25, 3) := by decide +kernel
theorem dX9_init_30 : decode cX9_init 30 = .ok (.dup, 1) := by decide +kernel
theorem dX9_init_31 : decode cX9_init 31 = .ok (.sipush 1000, 3) := by decide +kernel
theorem dX9_init_34 : decode cX9_init 34 = .ok (.invokespecial 27, 3) := by decide +kernel
theorem dX9_init_37 : decode cX9_init 37 = .ok (.putfield 30, 3) := by decide +kernel
theorem dX9_init_40 : decode cX9_init 40 = .ok (.aload_n 0, 1) := by decide +kernel
theorem dX9_init_41 : decode cX9_init 41 = .ok (.sipush 201, 3) := by decide +kernel
theorem dX9_init_44 : decode cX9_init 44 = .ok (.newarray .int, 2) := by decide +kernel
theorem dX9_init_46 : decode cX9_init 46 = .ok (.putfield 34, 3) := by decide +kernel
theorem dX9_init_49 : decode cX9_init 49 = .ok (.aload_n 0, 1) := by decide +kernel
theorem dX9_init_50 : decode cX9_init 50 = .ok (.iload_n 1, 1) := by decide +kernel
theorem dX9_init_51 : decode cX9_init 51 = .ok (.putfield 38, 3) := by decide +kernel
theorem dX9_init_54 : decode cX9_init 54 = .ok (.return_, 1) := by decide +kernel
set_option maxRecDepth 20000 in
theorem ggX9_walk_X1_keepAll : GoodIn wsX9_walk wsX1_keepAll := goodIn_r _ [10, 11, 12, 13, 14, 15, 16, 109, 110, 111, 112] (by decide +kernel) (by decide +kernel)
set_option maxRecDepth 20000 in
theorem gX9_walk_X1_keepAll : GoodIn wsX9_walk (wsV RX9 48 RX1 yX1_keepAll wsX1_keepAll) := goodIn_app (goodIn_of _ (by decide +kernel)) ggX9_walk_X1_keepAll
set_option maxRecDepth 20000 in
theorem ggX9_walk_X9_later : GoodIn wsX9_walk wsX9_later := goodIn_r _ [21, 2, 5, 102, 103, 104, 105, 106, 107, 108] (by decide +kernel) (by decide +kernel)
set_option maxRecDepth 20000 in
theorem gX9_walk_X9_later : GoodIn wsX9_walk (wsV RX9 51 RX9 yX9_later wsX9_later) := goodIn_app (goodIn_of _ (by decide +kernel)) ggX9_walk_X9_later
set_option maxRecDepth 20000 in
theorem ggX9_walk_X9_begin : GoodIn wsX9_walk wsX9_begin := goodIn_r _ [25, 26, 27, 28, 29, 3, 30, 31, 32, 33, 20, 34, 1, 35, 36, 37, 38, 9, 39, 11, 40, 41, 42, 43, 44, 45, 46, 47, 48, 49, 50, 51, 52, 53, 54, 55, 56, 57, 58, 59, 60, 17, 18, 19, 21, 2, 5, 61, 62, 63, 64, 65, 66, 67, 68, 69, 70, 71, 72, 73, 74, 75, 76, 77, 78, 79, 80, 81, 82, 83, 84, 85, 86, 87, 88, 89, 90, 91, 92, 93, 102, 103, 104, 105, 106, 107, 108, 113, 114, 115, 116, 109, 110, 111, 112, 117, 118, 119] (by decide +kernel) (by decide +kernel)
set_option maxRecDepth 20000 in
theorem gX9_walk_X9_begin : GoodIn wsX9_walk (wsV RX9 55 RX9 yX9_begin wsX9_begin) := goodIn_app (goodIn_of _ (by decide +kernel)) ggX9_walk_X9_begin
set_option maxRecDepth 20000 in
theorem ggX9_walk_X9_goRound : GoodIn wsX9_walk wsX9_goRound := goodIn_r _ [97, 3, 30, 26, 27, 28, 31, 32, 33, 20, 34, 1, 35, 17, 18, 19, 21, 2, 5, 102, 103, 104, 105, 106, 107, 108, 109, 110, 111, 112, 113, 114, 115, 116] (by decide +kernel) (by decide +kernel)
set_option maxRecDepth 20000 in
theorem gX9_walk_X9_goRound : GoodIn wsX9_walk (wsV RX9 59 RX9 yX9_goRound wsX9_goRound) := goodIn_app (goodIn_of _ (by decide +kernel)) ggX9_walk_X9_goRound
set_option maxRecDepth 20000 in
theorem ggX9_walk_X1_bringBackAll : GoodIn wsX9_walk wsX1_bringBackAll := goodIn_r _ [101, 12, 11, 13, 14, 15, 16, 109, 110, 111, 112] (by decide +kernel) (by decide +kernel)
set_option maxRecDepth 20000 in
theorem gX9_walk_X1_bringBackAll : GoodIn wsX9_walk (wsV RX9 62 RX1 yX1_bringBackAll wsX1_bringBackAll) := goodIn_app (goodIn_of _ (by decide +kernel)) ggX9_walk_X1_bringBackAll
theorem dX9_walk_0 : decode cX9_walk 0 = .ok (.aload_n 0, 1) := by decide +kernel
theorem dX9_walk_1 : decode cX9_walk 1 = .ok (.iconst 0, 1) := by decide +kernel
theorem dX9_walk_2 : decode cX9_walk 2 = .ok (.putfield 42, 3) := by decide +kernel
theorem dX9_walk_5 : decode cX9_walk 5 = .ok (.aload_n 0, 1) := by decide +kernel
theorem dX9_walk_6 : decode cX9_walk 6 = .ok (.iconst 0, 1) := by decide +kernel
theorem dX9_walk_7 : decode cX9_walk 7 = .ok (.putfield 45, 3) := by decide +kernel
theorem dX9_walk_10 : decode cX9_walk 10 = .ok (.aload_n 0, 1) := by decide +kernel
theorem dX9_walk_11 : decode cX9_walk 11 = .ok (.getfield 12, 3) := by decide +kernel
theorem dX9_walk_14 : decode cX9_walk 14 = .ok (.invokevirtual 48, 3) := by decide +kernel
theorem dX9_walk_17 : decode cX9_walk 17 = .ok (.aload_n 0, 1) := by decide +kernel
theorem dX9_walk_18 : decode cX9_walk 18 = .ok (.iload_n 1, 1) := by decide +kernel
theorem dX9_walk_19 : decode cX9_walk 19 = .ok (.invokevirtual 51, 3) := by decide +kernel
theorem dX9_walk_22 : decode cX9_walk 22 = .ok (.iconst 1, 1) := by decide +kernel
theorem dX9_walk_23 : decode cX9_walk 23 = .ok (.istore_n 2, 1) := by decide +kernel
theorem dX9_walk_24 : decode cX9_walk 24 = .ok (.iconst 0, 1) := by decide +kernel
theorem dX9_walk_25 : decode cX9_walk 25 = .ok (.istore_n 3, 1) := by decide +kernel
theorem dX9_walk_26 : decode cX9_walk 26 = .ok (.iload_n 3, 1) := by decide +kernel
theorem dX9_walk_27 : decode cX9_walk 27 = .ok (.ldc 54, 2) := by decide +kernel
theorem dX9_walk_29 : decode cX9_walk 29 = .ok (.if_icmp .ge 64, 3) := by decide +kernel
theorem dX9_walk_32 : decode cX9_walk 32 = .ok (.aload_n 0, 1) := by decide +kernel
theorem dX9_walk_33 : decode cX9_walk 33 = .ok (.getfield 45, 3) := by decide +kernel
theorem dX9_walk_36 : decode cX9_walk 36 = .ok (.ifCond .le 57, 3) := by decide +kernel
theorem dX9_walk_39 : decode cX9_walk 39 = .ok (.iload_n 2, 1) := by decide +kernel
theorem dX9_walk_40 : decode cX9_walk 40 = .ok (.iconst 1, 1) := by decide +kernel
theorem dX9_walk_41 : decode cX9_walk 41 = .ok (.if_icmp .ne 52, 3) := by decide +kernel
theorem dX9_walk_44 : decode cX9_walk 44 = .ok (.aload_n 0, 1) := by decide +kernel
theorem dX9_walk_45 : decode cX9_walk 45 = .ok (.dup, 1) := by decide +kernel
theorem dX9_walk_46 : decode cX9_walk 46 = .ok (.getfield 45, 3) := by decide +kernel
theorem dX9_walk_49 : decode cX9_walk 49 = .ok (.iconst 1, 1) := by decide +kernel
theorem dX9_walk_50 : decode cX9_walk 50 = .ok (.isub, 1) := by decide +kernel
theorem dX9_walk_51 : decode cX9_walk 51 = .ok (.putfield 45, 3) := by decide +kernel
theorem dX9_walk_54 : decode cX9_walk 54 = .ok (.aload_n 0, 1) := by decide +kernel
theorem dX9_walk_55 : decode cX9_walk 55 = .ok (.getfield 34, 3) := by decide +kernel
theorem dX9_walk_58 : decode cX9_walk 58 = .ok (.aload_n 0, 1) := by decide +kernel
theorem dX9_walk_59 : decode cX9_walk 59 = .ok (.getfield 45, 3) := by decide +kernel
theorem dX9_walk_62 : decode cX9_walk 62 = .ok (.iaload, 1) := by decide +kernel
theorem dX9_walk_63 : decode cX9_walk 63 = .ok (.istore 4, 2) := by decide +kernel
theorem dX9_walk_65 : decode cX9_walk 65 = .ok (.iload 4, 2) := by decide +kernel
theorem dX9_walk_67 : decode cX9_walk 67 = .ok (.ifCond .le 12, 3) := by decide +kernel
theorem dX9_walk_70 : decode cX9_walk 70 = .ok (.aload_n 0, 1) := by decide +kernel
theorem dX9_walk_71 : decode cX9_walk 71 = .ok (.iload 4, 2) := by decide +kernel
theorem dX9_walk_73 : decode cX9_walk 73 = .ok (.invokevirtual 55, 3) := by decide +kernel
theorem dX9_walk_76 : decode cX9_walk 76 = .ok (.goto 10, 3) := by decide +kernel
theorem dX9_walk_79 : decode cX9_walk 79 = .ok (.aload_n 0, 1) := by decide +kernel
theorem dX9_walk_80 : decode cX9_walk 80 = .ok (.iload 4, 2) := by decide +kernel
theorem dX9_walk_82 : decode cX9_walk 82 = .ok (.ineg, 1) := by decide +kernel
theorem dX9_walk_83 : decode cX9_walk 83 = .ok (.invokevirtual 59, 3) := by decide +kernel
theorem dX9_walk_86 : decode cX9_walk 86 = .ok (.istore_n 2, 1) := by decide +kernel
theorem dX9_walk_87 : decode cX9_walk 87 = .ok (.iinc 3 1, 3) := by decide +kernel
theorem dX9_walk_90 : decode cX9_walk 90 = .ok (.goto (-64), 3) := by decide +kernel
theorem dX9_walk_93 : decode cX9_walk 93 = .ok (.iload_n 2, 1) := by decide +kernel
theorem dX9_walk_94 : decode cX9_walk 94 = .ok (.ifCond .ne 10, 3) := by decide +kernel
theorem dX9_walk_97 : decode cX9_walk 97 = .ok (.aload_n 0, 1) := by decide +kernel
theorem dX9_walk_98 : decode cX9_walk 98 = .ok (.getfield 12, 3) := by decide +kernel
theorem dX9_walk_101 : decode cX9_walk 101 = .ok (.invokevirtual 62, 3) := by decide +kernel
theorem dX9_walk_104 : decode cX9_walk 104 = .ok (.iload_n 2, 1) := by decide +kernel
theorem dX9_walk_105 : decode cX9_walk 105 = .ok (.ireturn, 1) := by decide +kernel
theorem dX9_later_0 : decode cX9_later 0 = .ok (.aload_n 0, 1) := by decide +kernel
theorem dX9_later_1 : decode cX9_later 1 = .ok (.getfield 45, 3) := by decide +kernel
theorem dX9_later_4 : decode cX9_later 4 = .ok (.aload_n 0, 1) := by decide +kernel
theorem dX9_later_5 : decode cX9_later 5 = .ok (.getfield 34, 3) := by decide +kernel
theorem dX9_later_8 : decode cX9_later 8 = .ok (.arraylength, 1) := by decide +kernel
theorem dX9_later_9 : decode cX9_later 9 = .ok (.if_icmp .ge 23, 3) := by decide +kernel
theorem dX9_later_12 : decode cX9_later 12 = .ok (.aload_n 0, 1) := by decide +kernel
theorem dX9_later_13 : decode cX9_later 13 = .ok (.getfield 34, 3) := by decide +kernel
theorem dX9_later_16 : decode cX9_later 16 = .ok (.aload_n 0, 1) := by decide +kernel
theorem dX9_later_17 : decode cX9_later 17 = .ok (.getfield 45, 3) := by decide +kernel
theorem dX9_later_20 : decode cX9_later 20 = .ok (.iload_n 1, 1) := by decide +kernel
theorem dX9_later_21 : decode cX9_later 21 = .ok (.iastore, 1) := by decide +kernel
theorem dX9_later_22 : decode cX9_later 22 = .ok (.aload_n 0, 1) := by decide +kernel
theorem dX9_later_23 : decode cX9_later 23 = .ok (.dup, 1) := by decide +kernel
theorem dX9_later_24 : decode cX9_later 24 = .ok (.getfield 45, 3) := by decide +kernel
theorem dX9_later_27 : decode cX9_later 27 = .ok (.iconst 1, 1) := by decide +kernel
theorem dX9_later_28 : decode cX9_later 28 = .ok (.iadd, 1) := by decide +kernel
theorem dX9_later_29 : decode cX9_later 29 = .ok (.putfield 45, 3) := by decide +kernel
theorem dX9_later_32 : decode cX9_later 32 = .ok (.return_, 1) := by decide +kernel
theorem dX9_takeStep_0 : decode cX9_takeStep 0 = .ok (.aload_n 0, 1) := by decide +kernel
theorem dX9_takeStep_1 : decode cX9_takeStep 1 = .ok (.getfield 42, 3) := by decide +kernel
theorem dX9_takeStep_4 : decode cX9_takeStep 4 = .ok (.aload_n 0, 1) := by decide +kernel
theorem dX9_takeStep_5 : decode cX9_takeStep 5 = .ok (.getfield 38, 3) := by decide +kernel
theorem dX9_takeStep_8 : decode cX9_takeStep 8 = .ok (.if_icmp .lt 5, 3) := by decide +kernel
theorem dX9_takeStep_11 : decode cX9_takeStep 11 = .ok (.iconst 0, 1) := by decide +kernel
theorem dX9_takeStep_12 : decode cX9_takeStep 12 = .ok (.ireturn, 1) := by decide +kernel
theorem dX9_takeStep_13 : decode cX9_takeStep 13 = .ok (.aload_n 0, 1) := by decide +kernel
theorem dX9_takeStep_14 : decode cX9_takeStep 14 = .ok (.dup, 1) := by decide +kernel
theorem dX9_takeStep_15 : decode cX9_takeStep 15 = .ok (.getfield 42, 3) := by decide +kernel
theorem dX9_takeStep_18 : decode cX9_takeStep 18 = .ok (.iconst 1, 1) := by decide +kernel
theorem dX9_takeStep_19 : decode cX9_takeStep 19 = .ok (.iadd, 1) := by decide +kernel
theorem dX9_takeStep_20 : decode cX9_takeStep 20 = .ok (.putfield 42, 3) := by decide +kernel
theorem dX9_takeStep_23 : decode cX9_takeStep 23 = .ok (.iconst 1, 1) := by decide +kernel
theorem dX9_takeStep_24 : decode cX9_takeStep 24 = .ok (.ireturn, 1) := by decide +kernel
set_option maxRecDepth 20000 in
theorem ggX9_begin_X9_takeStep : GoodIn wsX9_begin wsX9_takeStep := goodIn_r _ [11, 12, 13, 80, 81, 82, 83, 84, 85, 86] (by decide +kernel) (by decide +kernel)
set_option maxRecDepth 20000 in
theorem gX9_begin_X9_takeStep : GoodIn wsX9_begin (wsV RX9 65 RX9 yX9_takeStep wsX9_takeStep) := goodIn_app (goodIn_of _ (by decide +kernel)) ggX9_begin_X9_takeStep
set_option maxRecDepth 20000 in
theorem ggX9_begin_X1_move : GoodIn wsX9_begin wsX1_move := goodIn_r _ [18, 19, 20, 91, 92, 93, 94] (by decide +kernel) (by decide +kernel)
set_option maxRecDepth 20000 in
theorem gX9_begin_X1_move : GoodIn wsX9_begin (wsV RX9 82 RX1 yX1_move wsX1_move) := goodIn_app (goodIn_of _ (by decide +kernel)) ggX9_begin_X1_move
set_option maxRecDepth 20000 in
theorem ggX9_begin_X9_become : GoodIn wsX9_begin wsX9_become := goodIn_r _ [24, 25, 26, 27, 28, 5, 6, 29, 30, 31, 17, 32, 20, 80, 81, 82, 83, 84, 85, 86, 91, 92, 93, 94] (by decide +kernel) (by decide +kernel)
set_option maxRecDepth 20000 in
theorem gX9_begin_X9_become : GoodIn wsX9_begin (wsV RX9 86 RX9 yX9_become wsX9_become) := goodIn_app (goodIn_of _ (by decide +kernel)) ggX9_begin_X9_become
set_option maxRecDepth 20000 in
theorem ggX9_begin_X9_multiply : GoodIn wsX9_begin wsX9_multiply := goodIn_r _ [36, 5, 6, 25, 26, 27, 28, 29, 30, 31, 17, 32, 20, 21, 22, 23, 10, 24, 80, 81, 82, 83, 84, 85, 86, 91, 92, 93, 94] (by decide +kernel) (by decide +kernel)
set_option maxRecDepth 20000 in
theorem gX9_begin_X9_multiply : GoodIn wsX9_begin (wsV RX9 90 RX9 yX9_multiply wsX9_multiply) := goodIn_app (goodIn_of _ (by decide +kernel)) ggX9_begin_X9_multiply
set_option maxRecDepth 20000 in
theorem ggX9_begin_X9_divide : GoodIn wsX9_begin wsX9_divide := goodIn_r _ [40, 5, 6, 21, 22, 23, 10, 24, 25, 26, 27, 28, 29, 30, 31, 17, 32, 20, 80, 81, 82, 83, 84, 85, 86, 91, 92, 93, 94] (by decide +kernel) (by decide +kernel)
set_option maxRecDepth 20000 in
theorem gX9_begin_X9_divide : GoodIn wsX9_begin (wsV RX9 94 RX9 yX9_divide wsX9_divide) := goodIn_app (goodIn_of _ (by decide +kernel)) ggX9_begin_X9_divide
set_option maxRecDepth 20000 in
theorem ggX9_begin_X9_later : GoodIn wsX9_begin wsX9_later := goodIn_r _ [44, 45, 46, 80, 81, 82, 83, 84, 85, 86] (by decide +kernel) (by decide +kernel)
set_option maxRecDepth 20000 in
theorem gX9_begin_X9_later : GoodIn wsX9_begin (wsV RX9 51 RX9 yX9_later wsX9_later) := goodIn_app (goodIn_of _ (by decide +kernel)) ggX9_begin_X9_later
set_option maxRecDepth 20000 in
theorem ggX9_begin_X9_beginIf : GoodIn wsX9_begin wsX9_beginIf := goodIn_r _ [50, 41, 42, 43, 10, 44, 45, 46, 80, 81, 82, 83, 84, 85, 86] (by decide +kernel) (by decide +kernel)
set_option maxRecDepth 20000 in
theorem gX9_begin_X9_beginIf : GoodIn wsX9_begin (wsV RX9 97 RX9 yX9_beginIf wsX9_beginIf) := goodIn_app (goodIn_of _ (by decide +kernel)) ggX9_begin_X9_beginIf
set_option maxRecDepth 20000 in
theorem ggX9_begin_X9_display : GoodIn wsX9_begin wsX9_display := goodIn_r _ [54, 5, 6, 55, 56, 57, 27, 58, 59, 60, 61, 62, 17, 63, 19, 64, 26, 28, 20, 65, 66, 67, 68, 69, 70, 71, 72, 73, 74, 80, 81, 82, 83, 84, 85, 86, 91, 92, 93, 94, 95, 96, 97] (by decide +kernel) (by decide +kernel)
set_option maxRecDepth 20000 in
theorem gX9_begin_X9_display : GoodIn wsX9_begin (wsV RX9 101 RX9 yX9_display wsX9_display) := goodIn_app (goodIn_of _ (by decide +kernel)) ggX9_begin_X9_display
set_option maxRecDepth 20000 in
theorem ggX9_begin_X9_store : GoodIn wsX9_begin wsX9_store := goodIn_r _ [78, 79, 59, 66, 67, 68, 69, 70, 71, 72, 73, 74, 80, 81, 82, 83, 84, 85, 86, 95, 96, 97] (by decide +kernel) (by decide +kernel)
set_option maxRecDepth 20000 in
theorem gX9_begin_X9_store : GoodIn wsX9_begin (wsV RX9 104 RX9 yX9_store wsX9_store) := goodIn_app (goodIn_of _ (by decide +kernel)) ggX9_begin_X9_store
theorem dX9_begin_0 : decode cX9_begin 0 = .ok (.aload_n 0, 1) := by decide +kernel
theorem dX9_begin_1 : decode cX9_begin 1 = .ok (.invokevirtual 65, 3) := by decide +kernel
theorem dX9_begin_4 : decode cX9_begin 4 = .ok (.ifCond .ne 5, 3) := by decide +kernel
theorem dX9_begin_7 : decode cX9_begin 7 = .ok (.iconst 0, 1) := by decide +kernel
theorem dX9_begin_8 : decode cX9_begin 8 = .ok (.ireturn, 1) := by decide +kernel
theorem dX9_begin_9 : decode cX9_begin 9 = .ok (.aload_n 0, 1) := by decide +kernel
theorem dX9_begin_10 : decode cX9_begin 10 = .ok (.getfield 21, 3) := by decide +kernel
theorem dX9_begin_13 : decode cX9_begin 13 = .ok (.getfield 69, 3) := by decide +kernel
theorem dX9_begin_16 : decode cX9_begin 16 = .ok (.iload_n 1, 1) := by decide +kernel
theorem dX9_begin_17 : decode cX9_begin 17 = .ok (.iaload, 1) := by decide +kernel
theorem dX9_begin_18 : decode cX9_begin 18 = .ok (.istore_n 2, 1) := by decide +kernel
theorem dX9_begin_19 : decode cX9_begin 19 = .ok (.aload_n 0, 1) := by decide +kernel
theorem dX9_begin_20 : decode cX9_begin 20 = .ok (.getfield 21, 3) := by decide +kernel
theorem dX9_begin_23 : decode cX9_begin 23 = .ok (.getfield 72, 3) := by decide +kernel
theorem dX9_begin_26 : decode cX9_begin 26 = .ok (.iload_n 1, 1) := by decide +kernel
theorem dX9_begin_27 : decode cX9_begin 27 = .ok (.iaload, 1) := by decide +kernel
theorem dX9_begin_28 : decode cX9_begin 28 = .ok (.istore_n 3, 1) := by decide +kernel
theorem dX9_begin_29 : decode cX9_begin 29 = .ok (.aload_n 0, 1) := by decide +kernel
theorem dX9_begin_30 : decode cX9_begin 30 = .ok (.getfield 21, 3) := by decide +kernel
theorem dX9_begin_33 : decode cX9_begin 33 = .ok (.getfield 75, 3) := by decide +kernel
theorem dX9_begin_36 : decode cX9_begin 36 = .ok (.iload_n 1, 1) := by decide +kernel
theorem dX9_begin_37 : decode cX9_begin 37 = .ok (.iaload, 1) := by decide +kernel
theorem dX9_begin_38 : decode cX9_begin 38 = .ok (.tableswitch 247 1 12 #[62, 81, 106, 131, 138, 145, 157, 207, 215, 222, 245, 182], 62) := by decide +kernel
theorem dX9_begin_100 : decode cX9_begin 100 = .ok (.aload_n 0, 1) := by decide +kernel
theorem dX9_begin_101 : decode cX9_begin 101 = .ok (.getfield 12, 3) := by decide +kernel
theorem dX9_begin_104 : decode cX9_begin 104 = .ok (.iload_n 3, 1) := by decide +kernel
theorem dX9_begin_105 : decode cX9_begin 105 = .ok (.aload_n 0, 1) := by decide +kernel
theorem dX9_begin_106 : decode cX9_begin 106 = .ok (.getfield 12, 3) := by decide +kernel
theorem dX9_begin_109 : decode cX9_begin 109 = .ok (.getfield 78, 3) := by decide +kernel
theorem dX9_begin_112 : decode cX9_begin 112 = .ok (.iload_n 2, 1) := by decide +kernel
theorem dX9_begin_113 : decode cX9_begin 113 = .ok (.laload, 1) := by decide +kernel
theorem dX9_begin_114 : decode cX9_begin 114 = .ok (.invokevirtual 82, 3) := by decide +kernel
theorem dX9_begin_117 : decode cX9_begin 117 = .ok (.iconst 1, 1) := by decide +kernel
theorem dX9_begin_118 : decode cX9_begin 118 = .ok (.ireturn, 1) := by decide +kernel
theorem dX9_begin_119 : decode cX9_begin 119 = .ok (.aload_n 0, 1) := by decide +kernel
theorem dX9_begin_120 : decode cX9_begin 120 = .ok (.iload_n 3, 1) := by decide +kernel
theorem dX9_begin_121 : decode cX9_begin 121 = .ok (.aload_n 0, 1) := by decide +kernel
theorem dX9_begin_122 : decode cX9_begin 122 = .ok (.getfield 12, 3) := by decide +kernel
theorem dX9_begin_125 : decode cX9_begin 125 = .ok (.getfield 78, 3) := by decide +kernel
theorem dX9_begin_128 : decode cX9_begin 128 = .ok (.iload_n 3, 1) := by decide +kernel
theorem dX9_begin_129 : decode cX9_begin 129 = .ok (.laload, 1) := by decide +kernel
theorem dX9_begin_130 : decode cX9_begin 130 = .ok (.aload_n 0, 1) := by decide +kernel
theorem dX9_begin_131 : decode cX9_begin 131 = .ok (.getfield 12, 3) := by decide +kernel
theorem dX9_begin_134 : decode cX9_begin 134 = .ok (.getfield 78, 3) := by decide +kernel
theorem dX9_begin_137 : decode cX9_begin 137 = .ok (.iload_n 2, 1) := by decide +kernel
theorem dX9_begin_138 : decode cX9_begin 138 = .ok (.laload, 1) := by decide +kernel
theorem dX9_begin_139 : decode cX9_begin 139 = .ok (.ladd, 1) := by decide +kernel
theorem dX9_begin_140 : decode cX9_begin 140 = .ok (.invokevirtual 86, 3) := by decide +kernel
theorem dX9_begin_143 : decode cX9_begin 143 = .ok (.ireturn, 1) := by decide +kernel
theorem dX9_begin_144 : decode cX9_begin 144 = .ok (.aload_n 0, 1) := by decide +kernel
theorem dX9_begin_145 : decode cX9_begin 145 = .ok (.iload_n 3, 1) := by decide +kernel
theorem dX9_begin_146 : decode cX9_begin 146 = .ok (.aload_n 0, 1) := by decide +kernel
theorem dX9_begin_147 : decode cX9_begin 147 = .ok (.getfield 12, 3) := by decide +kernel
theorem dX9_begin_150 : decode cX9_begin 150 = .ok (.getfield 78, 3) := by decide +kernel
theorem dX9_begin_153 : decode cX9_begin 153 = .ok (.iload_n 3, 1) := by decide +kernel
theorem dX9_begin_154 : decode cX9_begin 154 = .ok (.laload, 1) := by decide +kernel
theorem dX9_begin_155 : decode cX9_begin 155 = .ok (.aload_n 0, 1) := by decide +kernel
theorem dX9_begin_156 : decode cX9_begin 156 = .ok (.getfield 12, 3) := by decide +kernel
theorem dX9_begin_159 : decode cX9_begin 159 = .ok (.getfield 78, 3) := by decide +kernel
theorem dX9_begin_162 : decode cX9_begin 162 = .ok (.iload_n 2, 1) := by decide +kernel
theorem dX9_begin_163 : decode cX9_begin 163 = .ok (.laload, 1) := by decide +kernel
theorem dX9_begin_164 : decode cX9_begin 164 = .ok (.lsub, 1) := by decide +kernel
theorem dX9_begin_165 : decode cX9_begin 165 = .ok (.invokevirtual 86, 3) := by decide +kernel
theorem dX9_begin_168 : decode cX9_begin 168 = .ok (.ireturn, 1) := by decide +kernel
theorem dX9_begin_169 : decode cX9_begin 169 = .ok (.aload_n 0, 1) := by decide +kernel
theorem dX9_begin_170 : decode cX9_begin 170 = .ok (.iload_n 2, 1) := by decide +kernel
theorem dX9_begin_171 : decode cX9_begin 171 = .ok (.iload_n 3, 1) := by decide +kernel
theorem dX9_begin_172 : decode cX9_begin 172 = .ok (.invokevirtual 90, 3) := by decide +kernel
theorem dX9_begin_175 : decode cX9_begin 175 = .ok (.ireturn, 1) := by decide +kernel
theorem dX9_begin_176 : decode cX9_begin 176 = .ok (.aload_n 0, 1) := by decide +kernel
theorem dX9_begin_177 : decode cX9_begin 177 = .ok (.iload_n 2, 1) := by decide +kernel
theorem dX9_begin_178 : decode cX9_begin 178 = .ok (.iload_n 3, 1) := by decide +kernel
theorem dX9_begin_179 : decode cX9_begin 179 = .ok (.invokevirtual 94, 3) := by decide +kernel
theorem dX9_begin_182 : decode cX9_begin 182 = .ok (.ireturn, 1) := by decide +kernel
theorem dX9_begin_183 : decode cX9_begin 183 = .ok (.aload_n 0, 1) := by decide +kernel
theorem dX9_begin_184 : decode cX9_begin 184 = .ok (.iload_n 3, 1) := by decide +kernel
theorem dX9_begin_185 : decode cX9_begin 185 = .ok (.invokevirtual 51, 3) := by decide +kernel
theorem dX9_begin_188 : decode cX9_begin 188 = .ok (.aload_n 0, 1) := by decide +kernel
theorem dX9_begin_189 : decode cX9_begin 189 = .ok (.iload_n 2, 1) := by decide +kernel
theorem dX9_begin_190 : decode cX9_begin 190 = .ok (.invokevirtual 51, 3) := by decide +kernel
theorem dX9_begin_193 : decode cX9_begin 193 = .ok (.iconst 1, 1) := by decide +kernel
theorem dX9_begin_194 : decode cX9_begin 194 = .ok (.ireturn, 1) := by decide +kernel
theorem dX9_begin_195 : decode cX9_begin 195 = .ok (.aload_n 0, 1) := by decide +kernel
theorem dX9_begin_196 : decode cX9_begin 196 = .ok (.aload_n 0, 1) := by decide +kernel
theorem dX9_begin_197 : decode cX9_begin 197 = .ok (.getfield 12, 3) := by decide +kernel
theorem dX9_begin_200 : decode cX9_begin 200 = .ok (.getfield 78, 3) := by decide +kernel
theorem dX9_begin_203 : decode cX9_begin 203 = .ok (.iload_n 2, 1) := by decide +kernel
theorem dX9_begin_204 : decode cX9_begin 204 = .ok (.laload, 1) := by decide +kernel
theorem dX9_begin_205 : decode cX9_begin 205 = .ok (.lconst 0, 1) := by decide +kernel
theorem dX9_begin_206 : decode cX9_begin 206 = .ok (.lcmp, 1) := by decide +kernel
theorem dX9_begin_207 : decode cX9_begin 207 = .ok (.ifCond .eq 7, 3) := by decide +kernel
theorem dX9_begin_210 : decode cX9_begin 210 = .ok (.iconst 1, 1) := by decide +kernel
theorem dX9_begin_211 : decode cX9_begin 211 = .ok (.goto 4, 3) := by decide +kernel
theorem dX9_begin_214 : decode cX9_begin 214 = .ok (.iconst 0, 1) := by decide +kernel
theorem dX9_begin_215 : decode cX9_begin 215 = .ok (.iload_n 3, 1) := by decide +kernel
theorem dX9_begin_216 : decode cX9_begin 216 = .ok (.invokevirtual 97, 3) := by decide +kernel
theorem dX9_begin_219 : decode cX9_begin 219 = .ok (.ireturn, 1) := by decide +kernel
theorem dX9_begin_220 : decode cX9_begin 220 = .ok (.aload_n 0, 1) := by decide +kernel
theorem dX9_begin_221 : decode cX9_begin 221 = .ok (.aload_n 0, 1) := by decide +kernel
theorem dX9_begin_222 : decode cX9_begin 222 = .ok (.getfield 12, 3) := by decide +kernel
theorem dX9_begin_225 : decode cX9_begin 225 = .ok (.getfield 78, 3) := by decide +kernel
theorem dX9_begin_228 : decode cX9_begin 228 = .ok (.iload_n 2, 1) := by decide +kernel
theorem dX9_begin_229 : decode cX9_begin 229 = .ok (.laload, 1) := by decide +kernel
theorem dX9_begin_230 : decode cX9_begin 230 = .ok (.lconst 0, 1) := by decide +kernel
theorem dX9_begin_231 : decode cX9_begin 231 = .ok (.lcmp, 1) := by decide +kernel
theorem dX9_begin_232 : decode cX9_begin 232 = .ok (.ifCond .ge 7, 3) := by decide +kernel
theorem dX9_begin_235 : decode cX9_begin 235 = .ok (.iconst 1, 1) := by decide +kernel
theorem dX9_begin_236 : decode cX9_begin 236 = .ok (.goto 4, 3) := by decide +kernel
theorem dX9_begin_239 : decode cX9_begin 239 = .ok (.iconst 0, 1) := by decide +kernel
theorem dX9_begin_240 : decode cX9_begin 240 = .ok (.iload_n 3, 1) := by decide +kernel
theorem dX9_begin_241 : decode cX9_begin 241 = .ok (.invokevirtual 97, 3) := by decide +kernel
theorem dX9_begin_244 : decode cX9_begin 244 = .ok (.ireturn, 1) := by decide +kernel
theorem dX9_begin_245 : decode cX9_begin 245 = .ok (.aload_n 0, 1) := by decide +kernel
theorem dX9_begin_246 : decode cX9_begin 246 = .ok (.iload_n 1, 1) := by decide +kernel
theorem dX9_begin_247 : decode cX9_begin 247 = .ok (.ineg, 1) := by decide +kernel
theorem dX9_begin_248 : decode cX9_begin 248 = .ok (.invokevirtual 51, 3) := by decide +kernel
theorem dX9_begin_251 : decode cX9_begin 251 = .ok (.iconst 1, 1) := by decide +kernel
theorem dX9_begin_252 : decode cX9_begin 252 = .ok (.ireturn, 1) := by decide +kernel
theorem dX9_begin_253 : decode cX9_begin 253 = .ok (.aload_n 0, 1) := by decide +kernel
theorem dX9_begin_254 : decode cX9_begin 254 = .ok (.iload_n 2, 1) := by decide +kernel
theorem dX9_begin_255 : decode cX9_begin 255 = .ok (.iload_n 3, 1) := by decide +kernel
theorem dX9_begin_256 : decode cX9_begin 256 = .ok (.invokevirtual 101, 3) := by decide +kernel
theorem dX9_begin_259 : decode cX9_begin 259 = .ok (.ireturn, 1) := by decide +kernel
theorem dX9_begin_260 : decode cX9_begin 260 = .ok (.aload_n 0, 1) := by decide +kernel
theorem dX9_begin_261 : decode cX9_begin 261 = .ok (.aload_n 0, 1) := by decide +kernel
theorem dX9_begin_262 : decode cX9_begin 262 = .ok (.getfield 12, 3) := by decide +kernel
theorem dX9_begin_265 : decode cX9_begin 265 = .ok (.getfield 78, 3) := by decide +kernel
theorem dX9_begin_268 : decode cX9_begin 268 = .ok (.iload_n 2, 1) := by decide +kernel
theorem dX9_begin_269 : decode cX9_begin 269 = .ok (.laload, 1) := by decide +kernel
theorem dX9_begin_270 : decode cX9_begin 270 = .ok (.aload_n 0, 1) := by decide +kernel
theorem dX9_begin_271 : decode cX9_begin 271 = .ok (.getfield 12, 3) := by decide +kernel
theorem dX9_begin_274 : decode cX9_begin 274 = .ok (.getfield 78, 3) := by decide +kernel
theorem dX9_begin_277 : decode cX9_begin 277 = .ok (.iload_n 3, 1) := by decide +kernel
theorem dX9_begin_278 : decode cX9_begin 278 = .ok (.laload, 1) := by decide +kernel
theorem dX9_begin_279 : decode cX9_begin 279 = .ok (.invokevirtual 104, 3) := by decide +kernel
theorem dX9_begin_282 : decode cX9_begin 282 = .ok (.ireturn, 1) := by decide +kernel
theorem dX9_begin_283 : decode cX9_begin 283 = .ok (.iconst 2, 1) := by decide +kernel
theorem dX9_begin_284 : decode cX9_begin 284 = .ok (.ireturn, 1) := by decide +kernel
theorem dX9_begin_285 : decode cX9_begin 285 = .ok (.iconst 1, 1) := by decide +kernel
theorem dX9_begin_286 : decode cX9_begin 286 = .ok (.ireturn, 1) := by decide +kernel
set_option maxRecDepth 20000 in
theorem ggX9_goRound_X9_takeStep : GoodIn wsX9_goRound wsX9_takeStep := goodIn_r _ [10, 11, 12, 19, 20, 21, 22, 23, 24, 25] (by decide +kernel) (by decide +kernel)
set_option maxRecDepth 20000 in
theorem gX9_goRound_X9_takeStep : GoodIn wsX9_goRound (wsV RX9 65 RX9 yX9_takeStep wsX9_takeStep) := goodIn_app (goodIn_of _ (by decide +kernel)) ggX9_goRound_X9_takeStep
set_option maxRecDepth 20000 in
theorem ggX9_goRound_X9_later : GoodIn wsX9_goRound wsX9_later := goodIn_r _ [16, 17, 18, 19, 20, 21, 22, 23, 24, 25] (by decide +kernel) (by decide +kernel)
set_option maxRecDepth 20000 in
theorem gX9_goRound_X9_later : GoodIn wsX9_goRound (wsV RX9 51 RX9 yX9_later wsX9_later) := goodIn_app (goodIn_of _ (by decide +kernel)) ggX9_goRound_X9_later
theorem dX9_goRound_0 : decode cX9_goRound 0 = .ok (.aload_n 0, 1) := by decide +kernel
theorem dX9_goRound_1 : decode cX9_goRound 1 = .ok (.getfield 12, 3) := by decide +kernel
theorem dX9_goRound_4 : decode cX9_goRound 4 = .ok (.getfield 78, 3) := by decide +kernel
theorem dX9_goRound_7 : decode cX9_goRound 7 = .ok (.aload_n 0, 1) := by decide +kernel
theorem dX9_goRound_8 : decode cX9_goRound 8 = .ok (.getfield 21, 3) := by decide +kernel
theorem dX9_goRound_11 : decode cX9_goRound 11 = .ok (.getfield 69, 3) := by decide +kernel
theorem dX9_goRound_14 : decode cX9_goRound 14 = .ok (.iload_n 1, 1) := by decide +kernel
theorem dX9_goRound_15 : decode cX9_goRound 15 = .ok (.iaload, 1) := by decide +kernel
theorem dX9_goRound_16 : decode cX9_goRound 16 = .ok (.laload, 1) := by decide +kernel
theorem dX9_goRound_17 : decode cX9_goRound 17 = .ok (.lconst 0, 1) := by decide +kernel
theorem dX9_goRound_18 : decode cX9_goRound 18 = .ok (.lcmp, 1) := by decide +kernel
theorem dX9_goRound_19 : decode cX9_goRound 19 = .ok (.ifCond .ne 5, 3) := by decide +kernel
theorem dX9_goRound_22 : decode cX9_goRound 22 = .ok (.iconst 1, 1) := by decide +kernel
theorem dX9_goRound_23 : decode cX9_goRound 23 = .ok (.ireturn, 1) := by decide +kernel
theorem dX9_goRound_24 : decode cX9_goRound 24 = .ok (.aload_n 0, 1) := by decide +kernel
theorem dX9_goRound_25 : decode cX9_goRound 25 = .ok (.invokevirtual 65, 3) := by decide +kernel
theorem dX9_goRound_28 : decode cX9_goRound 28 = .ok (.ifCond .ne 5, 3) := by decide +kernel
theorem dX9_goRound_31 : decode cX9_goRound 31 = .ok (.iconst 0, 1) := by decide +kernel
theorem dX9_goRound_32 : decode cX9_goRound 32 = .ok (.ireturn, 1) := by decide +kernel
theorem dX9_goRound_33 : decode cX9_goRound 33 = .ok (.aload_n 0, 1) := by decide +kernel
theorem dX9_goRound_34 : decode cX9_goRound 34 = .ok (.iload_n 1, 1) := by decide +kernel
theorem dX9_goRound_35 : decode cX9_goRound 35 = .ok (.ineg, 1) := by decide +kernel
theorem dX9_goRound_36 : decode cX9_goRound 36 = .ok (.invokevirtual 51, 3) := by decide +kernel
theorem dX9_goRound_39 : decode cX9_goRound 39 = .ok (.aload_n 0, 1) := by decide +kernel
theorem dX9_goRound_40 : decode cX9_goRound 40 = .ok (.aload_n 0, 1) := by decide +kernel
theorem dX9_goRound_41 : decode cX9_goRound 41 = .ok (.getfield 21, 3) := by decide +kernel
theorem dX9_goRound_44 : decode cX9_goRound 44 = .ok (.getfield 72, 3) := by decide +kernel
theorem dX9_goRound_47 : decode cX9_goRound 47 = .ok (.iload_n 1, 1) := by decide +kernel
theorem dX9_goRound_48 : decode cX9_goRound 48 = .ok (.iaload, 1) := by decide +kernel
theorem dX9_goRound_49 : decode cX9_goRound 49 = .ok (.invokevirtual 51, 3) := by decide +kernel
theorem dX9_goRound_52 : decode cX9_goRound 52 = .ok (.iconst 1, 1) := by decide +kernel
theorem dX9_goRound_53 : decode cX9_goRound 53 = .ok (.ireturn, 1) := by decide +kernel
set_option maxRecDepth 20000 in
theorem ggX9_beginIf_X9_later : GoodIn wsX9_beginIf wsX9_later := goodIn_r _ [5, 6, 7, 8, 9, 10, 11, 12, 13, 14] (by decide +kernel) (by decide +kernel)
set_option maxRecDepth 20000 in
theorem gX9_beginIf_X9_later : GoodIn wsX9_beginIf (wsV RX9 51 RX9 yX9_later wsX9_later) := goodIn_app (goodIn_of _ (by decide +kernel)) ggX9_beginIf_X9_later
theorem dX9_beginIf_0 : decode cX9_beginIf 0 = .ok (.iload_n 1, 1) := by decide +kernel
theorem dX9_beginIf_1 : decode cX9_beginIf 1 = .ok (.ifCond .eq 8, 3) := by decide +kernel
theorem dX9_beginIf_4 : decode cX9_beginIf 4 = .ok (.aload_n 0, 1) := by decide +kernel
theorem dX9_beginIf_5 : decode cX9_beginIf 5 = .ok (.iload_n 2, 1) := by decide +kernel
theorem dX9_beginIf_6 : decode cX9_beginIf 6 = .ok (.invokevirtual 51, 3) := by decide +kernel
theorem dX9_beginIf_9 : decode cX9_beginIf 9 = .ok (.iconst 1, 1) := by decide +kernel
theorem dX9_beginIf_10 : decode cX9_beginIf 10 = .ok (.ireturn, 1) := by decide +kernel
set_option maxRecDepth 20000 in
theorem ggX9_become_X1_mostOf : GoodIn wsX9_become wsX1_mostOf := goodIn_r _ [11, 12, 20, 21, 22, 23] (by decide +kernel) (by decide +kernel)
set_option maxRecDepth 20000 in
theorem gX9_become_X1_mostOf : GoodIn wsX9_become (wsV RX9 114 RX1 yX1_mostOf wsX1_mostOf) := goodIn_app (goodIn_of _ (by decide +kernel)) ggX9_become_X1_mostOf
theorem dX9_become_0 : decode cX9_become 0 = .ok (.lload_n 2, 1) := by decide +kernel
theorem dX9_become_1 : decode cX9_become 1 = .ok (.invokestatic 108, 3) := by decide +kernel
theorem dX9_become_4 : decode cX9_become 4 = .ok (.aload_n 0, 1) := by decide +kernel
theorem dX9_become_5 : decode cX9_become 5 = .ok (.getfield 12, 3) := by decide +kernel
theorem dX9_become_8 : decode cX9_become 8 = .ok (.iload_n 1, 1) := by decide +kernel
theorem dX9_become_9 : decode cX9_become 9 = .ok (.invokevirtual 114, 3) := by decide +kernel
theorem dX9_become_12 : decode cX9_become 12 = .ok (.lcmp, 1) := by decide +kernel
theorem dX9_become_13 : decode cX9_become 13 = .ok (.ifCond .le 5, 3) := by decide +kernel
theorem dX9_become_16 : decode cX9_become 16 = .ok (.iconst 2, 1) := by decide +kernel
theorem dX9_become_17 : decode cX9_become 17 = .ok (.ireturn, 1) := by decide +kernel
theorem dX9_become_18 : decode cX9_become 18 = .ok (.aload_n 0, 1) := by decide +kernel
theorem dX9_become_19 : decode cX9_become 19 = .ok (.getfield 12, 3) := by decide +kernel
theorem dX9_become_22 : decode cX9_become 22 = .ok (.getfield 78, 3) := by decide +kernel
theorem dX9_become_25 : decode cX9_become 25 = .ok (.iload_n 1, 1) := by decide +kernel
theorem dX9_become_26 : decode cX9_become 26 = .ok (.lload_n 2, 1) := by decide +kernel
theorem dX9_become_27 : decode cX9_become 27 = .ok (.lastore, 1) := by decide +kernel
theorem dX9_become_28 : decode cX9_become 28 = .ok (.iconst 1, 1) := by decide +kernel
theorem dX9_become_29 : decode cX9_become 29 = .ok (.ireturn, 1) := by decide +kernel
set_option maxRecDepth 20000 in
theorem ggX9_multiply_X1_mostOf : GoodIn wsX9_multiply wsX1_mostOf := goodIn_r _ [11, 12, 25, 26, 27, 28] (by decide +kernel) (by decide +kernel)
set_option maxRecDepth 20000 in
theorem gX9_multiply_X1_mostOf : GoodIn wsX9_multiply (wsV RX9 114 RX1 yX1_mostOf wsX1_mostOf) := goodIn_app (goodIn_of _ (by decide +kernel)) ggX9_multiply_X1_mostOf
set_option maxRecDepth 20000 in
theorem ggX9_multiply_X9_become : GoodIn wsX9_multiply wsX9_become := goodIn_r _ [17, 3, 4, 5, 6, 1, 2, 7, 8, 9, 10, 11, 12, 18, 19, 20, 21, 22, 23, 24, 25, 26, 27, 28] (by decide +kernel) (by decide +kernel)
set_option maxRecDepth 20000 in
theorem gX9_multiply_X9_become : GoodIn wsX9_multiply (wsV RX9 86 RX9 yX9_become wsX9_become) := goodIn_app (goodIn_of _ (by decide +kernel)) ggX9_multiply_X9_become
theorem dX9_multiply_0 : decode cX9_multiply 0 = .ok (.aload_n 0, 1) := by decide +kernel
theorem dX9_multiply_1 : decode cX9_multiply 1 = .ok (.getfield 12, 3) := by decide +kernel
theorem dX9_multiply_4 : decode cX9_multiply 4 = .ok (.getfield 78, 3) := by decide +kernel
theorem dX9_multiply_7 : decode cX9_multiply 7 = .ok (.iload_n 1, 1) := by decide +kernel
theorem dX9_multiply_8 : decode cX9_multiply 8 = .ok (.laload, 1) := by decide +kernel
theorem dX9_multiply_9 : decode cX9_multiply 9 = .ok (.lstore_n 3, 1) := by decide +kernel
theorem dX9_multiply_10 : decode cX9_multiply 10 = .ok (.lload_n 3, 1) := by decide +kernel
theorem dX9_multiply_11 : decode cX9_multiply 11 = .ok (.lconst 0, 1) := by decide +kernel
theorem dX9_multiply_12 : decode cX9_multiply 12 = .ok (.lcmp, 1) := by decide +kernel
theorem dX9_multiply_13 : decode cX9_multiply 13 = .ok (.ifCond .eq 34, 3) := by decide +kernel
theorem dX9_multiply_16 : decode cX9_multiply 16 = .ok (.aload_n 0, 1) := by decide +kernel
theorem dX9_multiply_17 : decode cX9_multiply 17 = .ok (.getfield 12, 3) := by decide +kernel
theorem dX9_multiply_20 : decode cX9_multiply 20 = .ok (.getfield 78, 3) := by decide +kernel
theorem dX9_multiply_23 : decode cX9_multiply 23 = .ok (.iload_n 2, 1) := by decide +kernel
theorem dX9_multiply_24 : decode cX9_multiply 24 = .ok (.laload, 1) := by decide +kernel
theorem dX9_multiply_25 : decode cX9_multiply 25 = .ok (.invokestatic 108, 3) := by decide +kernel
theorem dX9_multiply_28 : decode cX9_multiply 28 = .ok (.aload_n 0, 1) := by decide +kernel
theorem dX9_multiply_29 : decode cX9_multiply 29 = .ok (.getfield 12, 3) := by decide +kernel
theorem dX9_multiply_32 : decode cX9_multiply 32 = .ok (.iload_n 2, 1) := by decide +kernel
theorem dX9_multiply_33 : decode cX9_multiply 33 = .ok (.invokevirtual 114, 3) := by decide +kernel
theorem dX9_multiply_36 : decode cX9_multiply 36 = .ok (.lload_n 3, 1) := by decide +kernel
theorem dX9_multiply_37 : decode cX9_multiply 37 = .ok (.invokestatic 108, 3) := by decide +kernel
theorem dX9_multiply_40 : decode cX9_multiply 40 = .ok (.ldiv, 1) := by decide +kernel
theorem dX9_multiply_41 : decode cX9_multiply 41 = .ok (.lcmp, 1) := by decide +kernel
theorem dX9_multiply_42 : decode cX9_multiply 42 = .ok (.ifCond .le 5, 3) := by decide +kernel
theorem dX9_multiply_45 : decode cX9_multiply 45 = .ok (.iconst 2, 1) := by decide +kernel
theorem dX9_multiply_46 : decode cX9_multiply 46 = .ok (.ireturn, 1) := by decide +kernel
theorem dX9_multiply_47 : decode cX9_multiply 47 = .ok (.aload_n 0, 1) := by decide +kernel
theorem dX9_multiply_48 : decode cX9_multiply 48 = .ok (.iload_n 2, 1) := by decide +kernel
theorem dX9_multiply_49 : decode cX9_multiply 49 = .ok (.aload_n 0, 1) := by decide +kernel
theorem dX9_multiply_50 : decode cX9_multiply 50 = .ok (.getfield 12, 3) := by decide +kernel
theorem dX9_multiply_53 : decode cX9_multiply 53 = .ok (.getfield 78, 3) := by decide +kernel
theorem dX9_multiply_56 : decode cX9_multiply 56 = .ok (.iload_n 2, 1) := by decide +kernel
theorem dX9_multiply_57 : decode cX9_multiply 57 = .ok (.laload, 1) := by decide +kernel
theorem dX9_multiply_58 : decode cX9_multiply 58 = .ok (.lload_n 3, 1) := by decide +kernel
theorem dX9_multiply_59 : decode cX9_multiply 59 = .ok (.lmul, 1) := by decide +kernel
theorem dX9_multiply_60 : decode cX9_multiply 60 = .ok (.invokevirtual 86, 3) := by decide +kernel
theorem dX9_multiply_63 : decode cX9_multiply 63 = .ok (.ireturn, 1) := by decide +kernel
set_option maxRecDepth 20000 in
theorem ggX9_divide_X9_become : GoodIn wsX9_divide wsX9_become := goodIn_r _ [7, 8, 9, 10, 11, 1, 2, 12, 13, 14, 15, 16, 17, 18, 19, 20, 21, 22, 23, 24, 25, 26, 27, 28] (by decide +kernel) (by decide +kernel)
set_option maxRecDepth 20000 in
theorem gX9_divide_X9_become : GoodIn wsX9_divide (wsV RX9 86 RX9 yX9_become wsX9_become) := goodIn_app (goodIn_of _ (by decide +kernel)) ggX9_divide_X9_become
theorem dX9_divide_0 : decode cX9_divide 0 = .ok (.aload_n 0, 1) := by decide +kernel
theorem dX9_divide_1 : decode cX9_divide 1 = .ok (.getfield 12, 3) := by decide +kernel
theorem dX9_divide_4 : decode cX9_divide 4 = .ok (.getfield 78, 3) := by decide +kernel
theorem dX9_divide_7 : decode cX9_divide 7 = .ok (.iload_n 1, 1) := by decide +kernel
theorem dX9_divide_8 : decode cX9_divide 8 = .ok (.laload, 1) := by decide +kernel
theorem dX9_divide_9 : decode cX9_divide 9 = .ok (.lstore_n 3, 1) := by decide +kernel
theorem dX9_divide_10 : decode cX9_divide 10 = .ok (.lload_n 3, 1) := by decide +kernel
theorem dX9_divide_11 : decode cX9_divide 11 = .ok (.lconst 0, 1) := by decide +kernel
theorem dX9_divide_12 : decode cX9_divide 12 = .ok (.lcmp, 1) := by decide +kernel
theorem dX9_divide_13 : decode cX9_divide 13 = .ok (.ifCond .ne 7, 3) := by decide +kernel
theorem dX9_divide_16 : decode cX9_divide 16 = .ok (.iconst 2, 1) := by decide +kernel
theorem dX9_divide_17 : decode cX9_divide 17 = .ok (.goto 19, 3) := by decide +kernel
theorem dX9_divide_20 : decode cX9_divide 20 = .ok (.aload_n 0, 1) := by decide +kernel
theorem dX9_divide_21 : decode cX9_divide 21 = .ok (.iload_n 2, 1) := by decide +kernel
theorem dX9_divide_22 : decode cX9_divide 22 = .ok (.aload_n 0, 1) := by decide +kernel
theorem dX9_divide_23 : decode cX9_divide 23 = .ok (.getfield 12, 3) := by decide +kernel
theorem dX9_divide_26 : decode cX9_divide 26 = .ok (.getfield 78, 3) := by decide +kernel
theorem dX9_divide_29 : decode cX9_divide 29 = .ok (.iload_n 2, 1) := by decide +kernel
theorem dX9_divide_30 : decode cX9_divide 30 = .ok (.laload, 1) := by decide +kernel
theorem dX9_divide_31 : decode cX9_divide 31 = .ok (.lload_n 3, 1) := by decide +kernel
theorem dX9_divide_32 : decode cX9_divide 32 = .ok (.ldiv, 1) := by decide +kernel
theorem dX9_divide_33 : decode cX9_divide 33 = .ok (.invokevirtual 86, 3) := by decide +kernel
theorem dX9_divide_36 : decode cX9_divide 36 = .ok (.ireturn, 1) := by decide +kernel
set_option maxRecDepth 20000 in
theorem ggX9_display_X1_digit : GoodIn wsX9_display wsX1_digit := goodIn_r _ [13, 14, 15, 16, 6, 17, 18, 19, 36, 37, 38, 39] (by decide +kernel) (by decide +kernel)
set_option maxRecDepth 20000 in
theorem gX9_display_X1_digit : GoodIn wsX9_display (wsV RX9 124 RX1 yX1_digit wsX1_digit) := goodIn_app (goodIn_of _ (by decide +kernel)) ggX9_display_X1_digit
set_option maxRecDepth 20000 in
theorem ggX9_display_X0_add : GoodIn wsX9_display wsX0_add := goodIn_r _ [24, 25, 26, 27, 28, 40, 41, 42] (by decide +kernel) (by decide +kernel)
set_option maxRecDepth 20000 in
theorem gX9_display_X0_add : GoodIn wsX9_display (wsV RX9 127 RX0 yX0_add wsX0_add) := goodIn_app (goodIn_of _ (by decide +kernel)) ggX9_display_X0_add
theorem dX9_display_0 : decode cX9_display 0 = .ok (.aload_n 0, 1) := by decide +kernel
theorem dX9_display_1 : decode cX9_display 1 = .ok (.getfield 12, 3) := by decide +kernel
theorem dX9_display_4 : decode cX9_display 4 = .ok (.getfield 78, 3) := by decide +kernel
theorem dX9_display_7 : decode cX9_display 7 = .ok (.iload_n 1, 1) := by decide +kernel
theorem dX9_display_8 : decode cX9_display 8 = .ok (.laload, 1) := by decide +kernel
theorem dX9_display_9 : decode cX9_display 9 = .ok (.lconst 0, 1) := by decide +kernel
theorem dX9_display_10 : decode cX9_display 10 = .ok (.lcmp, 1) := by decide +kernel
theorem dX9_display_11 : decode cX9_display 11 = .ok (.ifCond .ge 7, 3) := by decide +kernel
theorem dX9_display_14 : decode cX9_display 14 = .ok (.iconst 1, 1) := by decide +kernel
theorem dX9_display_15 : decode cX9_display 15 = .ok (.goto 4, 3) := by decide +kernel
theorem dX9_display_18 : decode cX9_display 18 = .ok (.iconst 0, 1) := by decide +kernel
theorem dX9_display_19 : decode cX9_display 19 = .ok (.istore_n 3, 1) := by decide +kernel
theorem dX9_display_20 : decode cX9_display 20 = .ok (.bipush 81, 2) := by decide +kernel
theorem dX9_display_22 : decode cX9_display 22 = .ok (.iload_n 2, 1) := by decide +kernel
theorem dX9_display_23 : decode cX9_display 23 = .ok (.bipush 100, 2) := by decide +kernel
theorem dX9_display_25 : decode cX9_display 25 = .ok (.irem, 1) := by decide +kernel
theorem dX9_display_26 : decode cX9_display 26 = .ok (.isub, 1) := by decide +kernel
theorem dX9_display_27 : decode cX9_display 27 = .ok (.istore 4, 2) := by decide +kernel
theorem dX9_display_29 : decode cX9_display 29 = .ok (.iload_n 3, 1) := by decide +kernel
theorem dX9_display_30 : decode cX9_display 30 = .ok (.aload_n 0, 1) := by decide +kernel
theorem dX9_display_31 : decode cX9_display 31 = .ok (.getfield 12, 3) := by decide +kernel
theorem dX9_display_34 : decode cX9_display 34 = .ok (.getfield 118, 3) := by decide +kernel
theorem dX9_display_37 : decode cX9_display 37 = .ok (.iload_n 1, 1) := by decide +kernel
theorem dX9_display_38 : decode cX9_display 38 = .ok (.iaload, 1) := by decide +kernel
theorem dX9_display_39 : decode cX9_display 39 = .ok (.iadd, 1) := by decide +kernel
theorem dX9_display_40 : decode cX9_display 40 = .ok (.iload 4, 2) := by decide +kernel
theorem dX9_display_42 : decode cX9_display 42 = .ok (.invokestatic 121, 3) := by decide +kernel
theorem dX9_display_45 : decode cX9_display 45 = .ok (.istore 5, 2) := by decide +kernel
theorem dX9_display_47 : decode cX9_display 47 = .ok (.iconst 0, 1) := by decide +kernel
theorem dX9_display_48 : decode cX9_display 48 = .ok (.istore 6, 2) := by decide +kernel
theorem dX9_display_50 : decode cX9_display 50 = .ok (.iload 6, 2) := by decide +kernel
theorem dX9_display_52 : decode cX9_display 52 = .ok (.iload 5, 2) := by decide +kernel
theorem dX9_display_54 : decode cX9_display 54 = .ok (.if_icmp .ge 57, 3) := by decide +kernel
theorem dX9_display_57 : decode cX9_display 57 = .ok (.iload 6, 2) := by decide +kernel
theorem dX9_display_59 : decode cX9_display 59 = .ok (.iload_n 3, 1) := by decide +kernel
theorem dX9_display_60 : decode cX9_display 60 = .ok (.if_icmp .ge 8, 3) := by decide +kernel
theorem dX9_display_63 : decode cX9_display 63 = .ok (.bipush 45, 2) := by decide +kernel
theorem dX9_display_65 : decode cX9_display 65 = .ok (.goto 18, 3) := by decide +kernel
theorem dX9_display_68 : decode cX9_display 68 = .ok (.bipush 48, 2) := by decide +kernel
theorem dX9_display_70 : decode cX9_display 70 = .ok (.aload_n 0, 1) := by decide +kernel
theorem dX9_display_71 : decode cX9_display 71 = .ok (.getfield 12, 3) := by decide +kernel
theorem dX9_display_74 : decode cX9_display 74 = .ok (.iload_n 1, 1) := by decide +kernel
theorem dX9_display_75 : decode cX9_display 75 = .ok (.iload 6, 2) := by decide +kernel
theorem dX9_display_77 : decode cX9_display 77 = .ok (.iload_n 3, 1) := by decide +kernel
theorem dX9_display_78 : decode cX9_display 78 = .ok (.isub, 1) := by decide +kernel
theorem dX9_display_79 : decode cX9_display 79 = .ok (.invokevirtual 124, 3) := by decide +kernel
theorem dX9_display_82 : decode cX9_display 82 = .ok (.iadd, 1) := by decide +kernel
theorem dX9_display_83 : decode cX9_display 83 = .ok (.istore 7, 2) := by decide +kernel
theorem dX9_display_85 : decode cX9_display 85 = .ok (.aload_n 0, 1) := by decide +kernel
theorem dX9_display_86 : decode cX9_display 86 = .ok (.getfield 30, 3) := by decide +kernel
theorem dX9_display_89 : decode cX9_display 89 = .ok (.iconst 4, 1) := by decide +kernel
theorem dX9_display_90 : decode cX9_display 90 = .ok (.iload_n 2, 1) := by decide +kernel
theorem dX9_display_91 : decode cX9_display 91 = .ok (.iload 6, 2) := by decide +kernel
theorem dX9_display_93 : decode cX9_display 93 = .ok (.iadd, 1) := by decide +kernel
theorem dX9_display_94 : decode cX9_display 94 = .ok (.iload 7, 2) := by decide +kernel
theorem dX9_display_96 : decode cX9_display 96 = .ok (.i2l, 1) := by decide +kernel
theorem dX9_display_97 : decode cX9_display 97 = .ok (.invokevirtual 127, 3) := by decide +kernel
theorem dX9_display_100 : decode cX9_display 100 = .ok (.ifCond .ne 5, 3) := by decide +kernel
theorem dX9_display_103 : decode cX9_display 103 = .ok (.iconst 2, 1) := by decide +kernel
theorem dX9_display_104 : decode cX9_display 104 = .ok (.ireturn, 1) := by decide +kernel
theorem dX9_display_105 : decode cX9_display 105 = .ok (.iinc 6 1, 3) := by decide +kernel
theorem dX9_display_108 : decode cX9_display 108 = .ok (.goto (-58), 3) := by decide +kernel
theorem dX9_display_111 : decode cX9_display 111 = .ok (.iconst 1, 1) := by decide +kernel
theorem dX9_display_112 : decode cX9_display 112 = .ok (.ireturn, 1) := by decide +kernel
set_option maxRecDepth 20000 in
theorem ggX9_store_X0_add : GoodIn wsX9_store wsX0_add := goodIn_r _ [7, 8, 9, 10, 11, 19, 20, 21] (by decide +kernel) (by decide +kernel)
set_option maxRecDepth 20000 in
theorem gX9_store_X0_add : GoodIn wsX9_store (wsV RX9 127 RX0 yX0_add wsX0_add) := goodIn_app (goodIn_of _ (by decide +kernel)) ggX9_store_X0_add
theorem dX9_store_0 : decode cX9_store 0 = .ok (.lload_n 1, 1) := by decide +kernel
theorem dX9_store_1 : decode cX9_store 1 = .ok (.lconst 0, 1) := by decide +kernel
theorem dX9_store_2 : decode cX9_store 2 = .ok (.lcmp, 1) := by decide +kernel
theorem dX9_store_3 : decode cX9_store 3 = .ok (.ifCond .lt 11, 3) := by decide +kernel
theorem dX9_store_6 : decode cX9_store 6 = .ok (.lload_n 1, 1) := by decide +kernel
theorem dX9_store_7 : decode cX9_store 7 = .ok (.ldc2_w 131, 3) := by decide +kernel
theorem dX9_store_10 : decode cX9_store 10 = .ok (.lcmp, 1) := by decide +kernel
theorem dX9_store_11 : decode cX9_store 11 = .ok (.ifCond .lt 5, 3) := by decide +kernel
theorem dX9_store_14 : decode cX9_store 14 = .ok (.iconst 2, 1) := by decide +kernel
theorem dX9_store_15 : decode cX9_store 15 = .ok (.ireturn, 1) := by decide +kernel
theorem dX9_store_16 : decode cX9_store 16 = .ok (.aload_n 0, 1) := by decide +kernel
theorem dX9_store_17 : decode cX9_store 17 = .ok (.getfield 30, 3) := by decide +kernel
theorem dX9_store_20 : decode cX9_store 20 = .ok (.iconst 0, 1) := by decide +kernel
theorem dX9_store_21 : decode cX9_store 21 = .ok (.lload_n 1, 1) := by decide +kernel
theorem dX9_store_22 : decode cX9_store 22 = .ok (.l2i, 1) := by decide +kernel
theorem dX9_store_23 : decode cX9_store 23 = .ok (.lload_n 3, 1) := by decide +kernel
theorem dX9_store_24 : decode cX9_store 24 = .ok (.invokevirtual 127, 3) := by decide +kernel
theorem dX9_store_27 : decode cX9_store 27 = .ok (.ifCond .eq 7, 3) := by decide +kernel
theorem dX9_store_30 : decode cX9_store 30 = .ok (.iconst 1, 1) := by decide +kernel
theorem dX9_store_31 : decode cX9_store 31 = .ok (.goto 4, 3) := by decide +kernel
theorem dX9_store_34 : decode cX9_store 34 = .ok (.iconst 2, 1) := by decide +kernel
theorem dX9_store_35 : decode cX9_store 35 = .ok (.ireturn, 1) := by decide +kernel
set_option maxRecDepth 20000 in
theorem ggX10_init_X0_init : GoodIn wsX10_init wsX0_init := goodIn_r _ [52, 53, 2, 3, 54, 55, 39, 56, 57, 58, 59, 60, 138, 139, 140] (by decide +kernel) (by decide +kernel)
set_option maxRecDepth 20000 in
theorem gX10_init_X0_init : GoodIn wsX10_init (wsX0_init) := ggX10_init_X0_init
set_option maxRecDepth 20000 in
theorem ggX10_init_X2_init : GoodIn wsX10_init wsX2_init := goodIn_r _ [62, 63, 2, 3, 57, 64, 59, 65, 141, 142, 143] (by decide +kernel) (by decide +kernel)
set_option maxRecDepth 20000 in
theorem gX10_init_X2_init_n24 : GoodIn wsX10_init (wsX2_init) := ggX10_init_X2_init
set_option maxRecDepth 20000 in
theorem ggX10_init_X8_init : GoodIn wsX10_init wsX8_init := goodIn_r _ [67, 68, 2, 3, 57, 69, 70, 71, 59, 72, 144, 145, 146, 147, 148, 149] (by decide +kernel) (by decide +kernel)
set_option maxRecDepth 20000 in
theorem gX10_init_X8_init_n31 : GoodIn wsX10_init (wsX8_init) := ggX10_init_X8_init
set_option maxRecDepth 20000 in
theorem ggX10_init_X4_init : GoodIn wsX10_init wsX4_init := goodIn_r _ [74, 75, 2, 3, 76, 77, 150] (by decide +kernel) (by decide +kernel)
set_option maxRecDepth 20000 in
theorem gX10_init_X4_init_n38 : GoodIn wsX10_init (wsX4_init) := ggX10_init_X4_init
set_option maxRecDepth 20000 in
theorem ggX10_init_X5_init : GoodIn wsX10_init wsX5_init := goodIn_r _ [79, 80, 2, 3, 57, 81, 82, 151, 152, 153] (by decide +kernel) (by decide +kernel)
set_option maxRecDepth 20000 in
theorem gX10_init_X5_init_n45 : GoodIn wsX10_init (wsX5_init) := ggX10_init_X5_init
set_option maxRecDepth 20000 in
theorem ggX10_init_X7_init : GoodIn wsX10_init wsX7_init := goodIn_r _ [84, 85, 2, 3, 57, 86, 59, 87, 88, 89, 90, 91, 92, 154, 155, 156, 157, 158, 159, 160] (by decide +kernel) (by decide +kernel)
set_option maxRecDepth 20000 in
theorem gX10_init_X7_init_n52 : GoodIn wsX10_init (wsX7_init) := ggX10_init_X7_init
set_option maxRecDepth 20000 in
theorem ggX10_init_X6_init : GoodIn wsX10_init wsX6_init := goodIn_r _ [94, 95, 2, 3, 59, 96, 161] (by decide +kernel) (by decide +kernel)
set_option maxRecDepth 20000 in
theorem gX10_init_X6_init_n59 : GoodIn wsX10_init (wsX6_init) := ggX10_init_X6_init
set_option maxRecDepth 20000 in
theorem ggX10_init_X9_init : GoodIn wsX10_init wsX9_init := goodIn_r _ [99, 100, 2, 3, 101, 102, 103, 104, 105, 106, 107, 108, 109, 6, 7, 110, 57, 111, 112, 113, 114, 115, 116, 59, 117, 118, 119, 120, 121, 122, 123, 124, 125, 51, 52, 53, 54, 55, 39, 56, 58, 60, 169, 170, 171, 172, 162, 163, 164, 165, 166, 167, 168, 173, 174, 175, 176, 138, 139, 140] (by decide +kernel) (by decide +kernel)
set_option maxRecDepth 20000 in
theorem gX10_init_X9_init : GoodIn wsX10_init (wsX9_init) := ggX10_init_X9_init
theorem dX10_init_0 : decode cX10_init 0 = .ok (.aload_n 0, 1) := by decide +kernel
theorem dX10_init_1 : decode cX10_init 1 = .ok (.invokespecial 3, 3) := by decide +kernel
theorem dX10_init_4 : decode cX10_init 4 = .ok (.aload_n 0, 1) := by decide +kernel
theorem dX10_init_5 : decode cX10_init 5 = .ok (.bipush 9, 2) := by decide +kernel
theorem dX10_init_7 : decode cX10_init 7 = .ok (.anewarray 9, 3) := by decide +kernel
theorem dX10_init_10 : decode cX10_init 10 = .ok (.putfield 11, 3) := by decide +kernel
theorem dX10_init_13 : decode cX10_init 13 = .ok (.aload_n 0, 1) := by decide +kernel
theorem dX10_init_14 : decode cX10_init 14 = .ok (.new 9, 3) := by decide +kernel
theorem dX10_init_17 : decode cX10_init 17 = .ok (.dup, 1) := by decide +kernel
theorem dX10_init_18 : decode cX10_init 18 = .ok (.sipush 1000, 3) := by decide +kernel
theorem dX10_init_21 : decode cX10_init 21 = .ok (.invokespecial 15, 3) := by decide +kernel
theorem dX10_init_24 : decode cX10_init 24 = .ok (.putfield 18, 3) := by decide +kernel
theorem dX10_init_27 : decode cX10_init 27 = .ok (.aload_n 0, 1) := by decide +kernel
theorem dX10_init_28 : decode cX10_init 28 = .ok (.new 22, 3) := by decide +kernel
theorem dX10_init_31 : decode cX10_init 31 = .ok (.dup, 1) := by decide +kernel
theorem dX10_init_32 : decode cX10_init 32 = .ok (.invokespecial 24, 3) := by decide +kernel
theorem dX10_init_35 : decode cX10_init 35 = .ok (.putfield 25, 3) := by decide +kernel
theorem dX10_init_38 : decode cX10_init 38 = .ok (.aload_n 0, 1) := by decide +kernel
theorem dX10_init_39 : decode cX10_init 39 = .ok (.new 29, 3) := by decide +kernel
theorem dX10_init_42 : decode cX10_init 42 = .ok (.dup, 1) := by decide +kernel
theorem dX10_init_43 : decode cX10_init 43 = .ok (.invokespecial 31, 3) := by decide +kernel
theorem dX10_init_46 : decode cX10_init 46 = .ok (.putfield 32, 3) := by decide +kernel
theorem dX10_init_49 : decode cX10_init 49 = .ok (.aload_n 0, 1) := by decide +kernel
theorem dX10_init_50 : decode cX10_init 50 = .ok (.new 36, 3) := by decide +kernel
theorem dX10_init_53 : decode cX10_init 53 = .ok (.dup, 1) := by decide +kernel
theorem dX10_init_54 : decode cX10_init 54 = .ok (.invokespecial 38, 3) := by decide +kernel
theorem dX10_init_57 : decode cX10_init 57 = .ok (.putfield 39, 3) := by decide +kernel
theorem dX10_init_60 : decode cX10_init 60 = .ok (.aload_n 0, 1) := by decide +kernel
theorem dX10_init_61 : decode cX10_init 61 = .ok (.new 43, 3) := by decide +kernel
theorem dX10_init_64 : decode cX10_init 64 = .ok (.dup, 1) := by decide +kernel
theorem dX10_init_65 : decode cX10_init 65 = .ok (.invokespecial 45, 3) := by decide +kernel
theorem dX10_init_68 : decode cX10_init 68 = .ok (.putfield 46, 3) := by decide +kernel
theorem dX10_init_71 : decode cX10_init 71 = .ok (.aload_n 0, 1) := by decide +kernel
theorem dX10_init_72 : decode cX10_init 72 = .ok (.new 50, 3) := by decide +kernel
theorem dX10_init_75 : decode cX10_init 75 = .ok (.dup, 1) := by decide +kernel
theorem dX10_init_76 : decode cX10_init 76 = .ok (.invokespecial 52, 3) := by decide +kernel
theorem dX10_init_79 : decode cX10_init 79 = .ok (.putfield 53, 3) := by decide +kernel
theorem dX10_init_82 : decode cX10_init 82 = .ok (.aload_n 0, 1) := by decide +kernel
theorem dX10_init_83 : decode cX10_init 83 = .ok (.new 57, 3) := by decide +kernel
theorem dX10_init_86 : decode cX10_init 86 = .ok (.dup, 1) := by decide +kernel
theorem dX10_init_87 : decode cX10_init 87 = .ok (.invokespecial 59, 3) := by decide +kernel
theorem dX10_init_90 : decode cX10_init 90 = .ok (.putfield 60, 3) := by decide +kernel
theorem dX10_init_93 : decode cX10_init 93 = .ok (.aload_n 0, 1) := by decide +kernel
theorem dX10_init_94 : decode cX10_init 94 = .ok (.new 64, 3) := by decide +kernel
theorem dX10_init_97 : decode cX10_init 97 = .ok (.dup, 1) := by decide +kernel
theorem dX10_init_98 : decode cX10_init 98 = .ok (.lconst 1, 1) := by decide +kernel
theorem dX10_init_99 : decode cX10_init 99 = .ok (.lload_n 1, 1) := by decide +kernel
theorem dX10_init_100 : decode cX10_init 100 = .ok (.ldc2_w 66, 3) := by decide +kernel
theorem dX10_init_103 : decode cX10_init 103 = .ok (.invokestatic 68, 3) := by decide +kernel
theorem dX10_init_106 : decode cX10_init 106 = .ok (.invokestatic 74, 3) := by decide +kernel
theorem dX10_init_109 : decode cX10_init 109 = .ok (.l2i, 1) := by decide +kernel
theorem dX10_init_110 : decode cX10_init 110 = .ok (.invokespecial 77, 3) := by decide +kernel
theorem dX10_init_113 : decode cX10_init 113 = .ok (.putfield 78, 3) := by decide +kernel
theorem dX10_init_116 : decode cX10_init 116 = .ok (.aload_n 0, 1) := by decide +kernel
theorem dX10_init_117 : decode cX10_init 117 = .ok (.aload_n 0, 1) := by decide +kernel
theorem dX10_init_118 : decode cX10_init 118 = .ok (.getfield 78, 3) := by decide +kernel
theorem dX10_init_121 : decode cX10_init 121 = .ok (.getfield 82, 3) := by decide +kernel
theorem dX10_init_124 : decode cX10_init 124 = .ok (.putfield 86, 3) := by decide +kernel
theorem dX10_init_127 : decode cX10_init 127 = .ok (.aload_n 0, 1) := by decide +kernel
theorem dX10_init_128 : decode cX10_init 128 = .ok (.aload_n 0, 1) := by decide +kernel
theorem dX10_init_129 : decode cX10_init 129 = .ok (.getfield 78, 3) := by decide +kernel
theorem dX10_init_132 : decode cX10_init 132 = .ok (.getfield 87, 3) := by decide +kernel
theorem dX10_init_135 : decode cX10_init 135 = .ok (.putfield 91, 3) := by decide +kernel
theorem dX10_init_138 : decode cX10_init 138 = .ok (.aload_n 0, 1) := by decide +kernel
theorem dX10_init_139 : decode cX10_init 139 = .ok (.getfield 11, 3) := by decide +kernel
theorem dX10_init_142 : decode cX10_init 142 = .ok (.iconst 0, 1) := by decide +kernel
theorem dX10_init_143 : decode cX10_init 143 = .ok (.aload_n 0, 1) := by decide +kernel
theorem dX10_init_144 : decode cX10_init 144 = .ok (.getfield 78, 3) := by decide +kernel
theorem dX10_init_147 : decode cX10_init 147 = .ok (.getfield 92, 3) := by decide +kernel
theorem dX10_init_150 : decode cX10_init 150 = .ok (.aastore, 1) := by decide +kernel
theorem dX10_init_151 : decode cX10_init 151 = .ok (.iconst 1, 1) := by decide +kernel
theorem dX10_init_152 : decode cX10_init 152 = .ok (.istore_n 3, 1) := by decide +kernel
theorem dX10_init_153 : decode cX10_init 153 = .ok (.iload_n 3, 1) := by decide +kernel
theorem dX10_init_154 : decode cX10_init 154 = .ok (.bipush 8, 2) := by decide +kernel
theorem dX10_init_156 : decode cX10_init 156 = .ok (.if_icmp .gt 24, 3) := by decide +kernel
theorem dX10_init_159 : decode cX10_init 159 = .ok (.aload_n 0, 1) := by decide +kernel
theorem dX10_init_160 : decode cX10_init 160 = .ok (.getfield 11, 3) := by decide +kernel
theorem dX10_init_163 : decode cX10_init 163 = .ok (.iload_n 3, 1) := by decide +kernel
theorem dX10_init_164 : decode cX10_init 164 = .ok (.new 9, 3) := by decide +kernel
theorem dX10_init_167 : decode cX10_init 167 = .ok (.dup, 1) := by decide +kernel
theorem dX10_init_168 : decode cX10_init 168 = .ok (.bipush 50, 2) := by decide +kernel
theorem dX10_init_170 : decode cX10_init 170 = .ok (.invokespecial 15, 3) := by decide +kernel
theorem dX10_init_173 : decode cX10_init 173 = .ok (.aastore, 1) := by decide +kernel
theorem dX10_init_174 : decode cX10_init 174 = .ok (.iinc 3 1, 3) := by decide +kernel
theorem dX10_init_177 : decode cX10_init 177 = .ok (.goto (-24), 3) := by decide +kernel
theorem dX10_init_180 : decode cX10_init 180 = .ok (.return_, 1) := by decide +kernel
set_option maxRecDepth 20000 in
theorem ggX10_cell_X10_refuse : GoodIn wsX10_cell wsX10_refuse := goodIn_r _ [7, 8, 17, 18, 19, 20, 21, 22, 23, 24, 25, 26, 27, 28] (by decide +kernel) (by decide +kernel)
set_option maxRecDepth 20000 in
theorem gX10_cell_X10_refuse : GoodIn wsX10_cell (wsV RX10 95 RX10 yX10_refuse wsX10_refuse) := goodIn_app (goodIn_of _ (by decide +kernel)) ggX10_cell_X10_refuse
set_option maxRecDepth 20000 in
theorem ggX10_cell_X1_make : GoodIn wsX10_cell wsX1_make := goodIn_r _ [13, 14, 15, 16, 29, 30, 31, 32] (by decide +kernel) (by decide +kernel)
set_option maxRecDepth 20000 in
theorem gX10_cell_X1_make : GoodIn wsX10_cell (wsV RX10 105 RX1 yX1_make wsX1_make) := goodIn_app (goodIn_of _ (by decide +kernel)) ggX10_cell_X1_make
theorem dX10_cell_0 : decode cX10_cell 0 = .ok (.iload_n 1, 1) := by decide +kernel
theorem dX10_cell_1 : decode cX10_cell 1 = .ok (.iconst 1, 1) := by decide +kernel
theorem dX10_cell_2 : decode cX10_cell 2 = .ok (.if_icmp .lt 9, 3) := by decide +kernel
theorem dX10_cell_5 : decode cX10_cell 5 = .ok (.iload_n 1, 1) := by decide +kernel
theorem dX10_cell_6 : decode cX10_cell 6 = .ok (.bipush 18, 2) := by decide +kernel
theorem dX10_cell_8 : decode cX10_cell 8 = .ok (.if_icmp .le 10, 3) := by decide +kernel
theorem dX10_cell_11 : decode cX10_cell 11 = .ok (.aload_n 0, 1) := by decide +kernel
theorem dX10_cell_12 : decode cX10_cell 12 = .ok (.bipush (-4), 2) := by decide +kernel
theorem dX10_cell_14 : decode cX10_cell 14 = .ok (.invokevirtual 95, 3) := by decide +kernel
theorem dX10_cell_17 : decode cX10_cell 17 = .ok (.ireturn, 1) := by decide +kernel
theorem dX10_cell_18 : decode cX10_cell 18 = .ok (.aload_n 0, 1) := by decide +kernel
theorem dX10_cell_19 : decode cX10_cell 19 = .ok (.getfield 86, 3) := by decide +kernel
theorem dX10_cell_22 : decode cX10_cell 22 = .ok (.getfield 99, 3) := by decide +kernel
theorem dX10_cell_25 : decode cX10_cell 25 = .ok (.bipush 60, 2) := by decide +kernel
theorem dX10_cell_27 : decode cX10_cell 27 = .ok (.if_icmp .lt 9, 3) := by decide +kernel
theorem dX10_cell_30 : decode cX10_cell 30 = .ok (.aload_n 0, 1) := by decide +kernel
theorem dX10_cell_31 : decode cX10_cell 31 = .ok (.iconst (-1), 1) := by decide +kernel
theorem dX10_cell_32 : decode cX10_cell 32 = .ok (.invokevirtual 95, 3) := by decide +kernel
theorem dX10_cell_35 : decode cX10_cell 35 = .ok (.ireturn, 1) := by decide +kernel
theorem dX10_cell_36 : decode cX10_cell 36 = .ok (.aload_n 0, 1) := by decide +kernel
theorem dX10_cell_37 : decode cX10_cell 37 = .ok (.getfield 86, 3) := by decide +kernel
theorem dX10_cell_40 : decode cX10_cell 40 = .ok (.iload_n 1, 1) := by decide +kernel
theorem dX10_cell_41 : decode cX10_cell 41 = .ok (.lload_n 2, 1) := by decide +kernel
theorem dX10_cell_42 : decode cX10_cell 42 = .ok (.invokevirtual 105, 3) := by decide +kernel
theorem dX10_cell_45 : decode cX10_cell 45 = .ok (.ireturn, 1) := by decide +kernel
set_option maxRecDepth 20000 in
theorem ggX10_node_X10_lacksPart : GoodIn wsX10_node wsX10_lacksPart := goodIn_r _ [7, 8, 1, 9, 10, 11, 12, 13, 14, 15, 16, 17, 18, 19, 20, 39, 40, 41, 42, 43, 44, 45, 46, 47, 48, 49, 50, 55, 56, 57, 58, 51, 52, 53, 54] (by decide +kernel) (by decide +kernel)
set_option maxRecDepth 20000 in
theorem gX10_node_X10_lacksPart : GoodIn wsX10_node (wsV RX10 109 RX10 yX10_lacksPart wsX10_lacksPart) := goodIn_app (goodIn_of _ (by decide +kernel)) ggX10_node_X10_lacksPart
set_option maxRecDepth 20000 in
theorem ggX10_node_X10_refuse : GoodIn wsX10_node wsX10_refuse := goodIn_r _ [24, 25, 39, 40, 41, 42, 43, 44, 45, 46, 47, 48, 49, 50] (by decide +kernel) (by decide +kernel)
set_option maxRecDepth 20000 in
theorem gX10_node_X10_refuse : GoodIn wsX10_node (wsV RX10 95 RX10 yX10_refuse wsX10_refuse) := goodIn_app (goodIn_of _ (by decide +kernel)) ggX10_node_X10_refuse
set_option maxRecDepth 20000 in
theorem ggX10_node_X10_isPlace : GoodIn wsX10_node wsX10_isPlace := goodIn_r _ [28, 29, 30, 31] (by decide +kernel) (by decide +kernel)
set_option maxRecDepth 20000 in
theorem gX10_node_X10_isPlace : GoodIn wsX10_node (va_wsS RX10 113 yX10_isPlace wsX10_isPlace) := goodIn_app (goodIn_of _ (by decide +kernel)) ggX10_node_X10_isPlace
set_option maxRecDepth 20000 in
theorem ggX10_node_X3_make : GoodIn wsX10_node wsX3_make := goodIn_r _ [35, 20, 36, 37, 38, 51, 52, 53, 54] (by decide +kernel) (by decide +kernel)
set_option maxRecDepth 20000 in
theorem gX10_node_X3_make : GoodIn wsX10_node (wsV RX10 120 RX3 yX3_make wsX3_make) := goodIn_app (goodIn_of _ (by decide +kernel)) ggX10_node_X3_make
theorem dX10_node_0 : decode cX10_node 0 = .ok (.aload_n 0, 1) := by decide +kernel
theorem dX10_node_1 : decode cX10_node 1 = .ok (.iload_n 1, 1) := by decide +kernel
theorem dX10_node_2 : decode cX10_node 2 = .ok (.iload_n 2, 1) := by decide +kernel
theorem dX10_node_3 : decode cX10_node 3 = .ok (.iload_n 3, 1) := by decide +kernel
theorem dX10_node_4 : decode cX10_node 4 = .ok (.invokevirtual 109, 3) := by decide +kernel
theorem dX10_node_7 : decode cX10_node 7 = .ok (.ifCond .eq 10, 3) := by decide +kernel
theorem dX10_node_10 : decode cX10_node 10 = .ok (.aload_n 0, 1) := by decide +kernel
theorem dX10_node_11 : decode cX10_node 11 = .ok (.bipush (-2), 2) := by decide +kernel
theorem dX10_node_13 : decode cX10_node 13 = .ok (.invokevirtual 95, 3) := by decide +kernel
theorem dX10_node_16 : decode cX10_node 16 = .ok (.ireturn, 1) := by decide +kernel
theorem dX10_node_17 : decode cX10_node 17 = .ok (.iload_n 1, 1) := by decide +kernel
theorem dX10_node_18 : decode cX10_node 18 = .ok (.bipush 9, 2) := by decide +kernel
theorem dX10_node_20 : decode cX10_node 20 = .ok (.if_icmp .ne 18, 3) := by decide +kernel
theorem dX10_node_23 : decode cX10_node 23 = .ok (.iload_n 3, 1) := by decide +kernel
theorem dX10_node_24 : decode cX10_node 24 = .ok (.i2l, 1) := by decide +kernel
theorem dX10_node_25 : decode cX10_node 25 = .ok (.invokestatic 113, 3) := by decide +kernel
theorem dX10_node_28 : decode cX10_node 28 = .ok (.ifCond .ne 10, 3) := by decide +kernel
theorem dX10_node_31 : decode cX10_node 31 = .ok (.aload_n 0, 1) := by decide +kernel
theorem dX10_node_32 : decode cX10_node 32 = .ok (.bipush (-4), 2) := by decide +kernel
theorem dX10_node_34 : decode cX10_node 34 = .ok (.invokevirtual 95, 3) := by decide +kernel
theorem dX10_node_37 : decode cX10_node 37 = .ok (.ireturn, 1) := by decide +kernel
theorem dX10_node_38 : decode cX10_node 38 = .ok (.aload_n 0, 1) := by decide +kernel
theorem dX10_node_39 : decode cX10_node 39 = .ok (.getfield 91, 3) := by decide +kernel
theorem dX10_node_42 : decode cX10_node 42 = .ok (.getfield 117, 3) := by decide +kernel
theorem dX10_node_45 : decode cX10_node 45 = .ok (.sipush 200, 3) := by decide +kernel
theorem dX10_node_48 : decode cX10_node 48 = .ok (.if_icmp .lt 9, 3) := by decide +kernel
theorem dX10_node_51 : decode cX10_node 51 = .ok (.aload_n 0, 1) := by decide +kernel
theorem dX10_node_52 : decode cX10_node 52 = .ok (.iconst (-1), 1) := by decide +kernel
theorem dX10_node_53 : decode cX10_node 53 = .ok (.invokevirtual 95, 3) := by decide +kernel
theorem dX10_node_56 : decode cX10_node 56 = .ok (.ireturn, 1) := by decide +kernel
theorem dX10_node_57 : decode cX10_node 57 = .ok (.aload_n 0, 1) := by decide +kernel
theorem dX10_node_58 : decode cX10_node 58 = .ok (.getfield 91, 3) := by decide +kernel
theorem dX10_node_61 : decode cX10_node 61 = .ok (.iload_n 1, 1) := by decide +kernel
theorem dX10_node_62 : decode cX10_node 62 = .ok (.iload_n 2, 1) := by decide +kernel
theorem dX10_node_63 : decode cX10_node 63 = .ok (.iload_n 3, 1) := by decide +kernel
theorem dX10_node_64 : decode cX10_node 64 = .ok (.invokevirtual 120, 3) := by decide +kernel
theorem dX10_node_67 : decode cX10_node 67 = .ok (.ireturn, 1) := by decide +kernel
set_option maxRecDepth 20000 in
theorem ggX10_run_X3_has : GoodIn wsX10_run wsX3_has := goodIn_r _ [10, 11, 212, 213, 214, 215] (by decide +kernel) (by decide +kernel)
set_option maxRecDepth 20000 in
theorem gX10_run_X3_has : GoodIn wsX10_run (wsV RX10 123 RX3 yX3_has wsX3_has) := goodIn_app (goodIn_of _ (by decide +kernel)) ggX10_run_X3_has
set_option maxRecDepth 20000 in
theorem ggX10_run_X10_refuse : GoodIn wsX10_run wsX10_refuse := goodIn_r _ [16, 17, 197, 198, 199, 200, 201, 202, 203, 204, 205, 206, 207, 208] (by decide +kernel) (by decide +kernel)
set_option maxRecDepth 20000 in
theorem gX10_run_X10_refuse : GoodIn wsX10_run (wsV RX10 95 RX10 yX10_refuse wsX10_refuse) := goodIn_app (goodIn_of _ (by decide +kernel)) ggX10_run_X10_refuse
set_option maxRecDepth 20000 in
theorem ggX10_run_X9_walk : GoodIn wsX10_run wsX9_walk := goodIn_r _ [22, 23, 24, 25, 26, 27, 28, 29, 30, 31, 32, 33, 34, 35, 36, 37, 38, 39, 40, 41, 21, 42, 43, 44, 45, 46, 47, 48, 49, 50, 51, 52, 53, 54, 55, 56, 57, 58, 59, 60, 61, 62, 63, 64, 65, 66, 67, 68, 69, 70, 71, 72, 73, 74, 75, 76, 77, 78, 79, 80, 81, 82, 83, 84, 85, 86, 87, 88, 89, 90, 91, 92, 93, 94, 95, 96, 97, 98, 99, 100, 101, 102, 103, 104, 105, 106, 107, 108, 109, 110, 111, 112, 113, 114, 115, 116, 117, 118, 119, 120, 121, 122, 216, 217, 218, 219, 220, 221, 222, 223, 224, 225, 226, 212, 213, 214, 215, 209, 210, 211] (by decide +kernel) (by decide +kernel)
set_option maxRecDepth 20000 in
theorem gX10_run_X9_walk : GoodIn wsX10_run (wsV RX10 127 RX9 yX9_walk wsX9_walk) := goodIn_app (goodIn_of _ (by decide +kernel)) ggX10_run_X9_walk
set_option maxRecDepth 20000 in
theorem ggX10_run_X0_hasRoomFor : GoodIn wsX10_run wsX0_hasRoomFor := goodIn_r _ [126, 107, 106, 209, 210, 211] (by decide +kernel) (by decide +kernel)
set_option maxRecDepth 20000 in
theorem gX10_run_X0_hasRoomFor : GoodIn wsX10_run (wsV RX10 133 RX0 yX0_hasRoomFor wsX0_hasRoomFor) := goodIn_app (goodIn_of _ (by decide +kernel)) ggX10_run_X0_hasRoomFor
set_option maxRecDepth 20000 in
theorem ggX10_run_X10_doAll : GoodIn wsX10_run wsX10_doAll := goodIn_r _ [130, 5, 131, 4, 132, 133, 134, 104, 135, 107, 108, 136, 137, 138, 139, 140, 141, 142, 15, 143, 144, 145, 146, 147, 148, 149, 150, 151, 152, 153, 154, 155, 36, 37, 38, 156, 157, 158, 159, 160, 161, 162, 163, 164, 165, 166, 167, 168, 169, 170, 171, 172, 173, 174, 175, 176, 177, 178, 179, 180, 181, 182, 183, 184, 185, 186, 187, 188, 189, 190, 191, 192, 193, 194, 195, 196, 102, 103, 105, 106, 109, 209, 210, 211, 197, 198, 199, 200, 201, 202, 203, 204, 205, 206, 207, 208, 227, 228, 229, 230, 231, 232, 233, 234, 235, 236] (by decide +kernel) (by decide +kernel)
set_option maxRecDepth 20000 in
theorem gX10_run_X10_doAll : GoodIn wsX10_run (wsV RX10 136 RX10 yX10_doAll wsX10_doAll) := goodIn_app (goodIn_of _ (by decide +kernel)) ggX10_run_X10_doAll
theorem dX10_run_0 : decode cX10_run 0 = .ok (.aload_n 0, 1) := by decide +kernel
theorem dX10_run_1 : decode cX10_run 1 = .ok (.getfield 91, 3) := by decide +kernel
theorem dX10_run_4 : decode cX10_run 4 = .ok (.iload_n 1, 1) := by decide +kernel
theorem dX10_run_5 : decode cX10_run 5 = .ok (.invokevirtual 123, 3) := by decide +kernel
theorem dX10_run_8 : decode cX10_run 8 = .ok (.ifCond .ne 10, 3) := by decide +kernel
theorem dX10_run_11 : decode cX10_run 11 = .ok (.aload_n 0, 1) := by decide +kernel
theorem dX10_run_12 : decode cX10_run 12 = .ok (.bipush (-2), 2) := by decide +kernel
theorem dX10_run_14 : decode cX10_run 14 = .ok (.invokevirtual 95, 3) := by decide +kernel
theorem dX10_run_17 : decode cX10_run 17 = .ok (.ireturn, 1) := by decide +kernel
theorem dX10_run_18 : decode cX10_run 18 = .ok (.aload_n 0, 1) := by decide +kernel
theorem dX10_run_19 : decode cX10_run 19 = .ok (.getfield 78, 3) := by decide +kernel
theorem dX10_run_22 : decode cX10_run 22 = .ok (.iload_n 1, 1) := by decide +kernel
theorem dX10_run_23 : decode cX10_run 23 = .ok (.invokevirtual 127, 3) := by decide +kernel
theorem dX10_run_26 : decode cX10_run 26 = .ok (.istore_n 2, 1) := by decide +kernel
theorem dX10_run_27 : decode cX10_run 27 = .ok (.aload_n 0, 1) := by decide +kernel
theorem dX10_run_28 : decode cX10_run 28 = .ok (.getfield 11, 3) := by decide +kernel
theorem dX10_run_31 : decode cX10_run 31 = .ok (.iconst 0, 1) := by decide +kernel
theorem dX10_run_32 : decode cX10_run 32 = .ok (.aaload, 1) := by decide +kernel
theorem dX10_run_33 : decode cX10_run 33 = .ok (.astore_n 3, 1) := by decide +kernel
theorem dX10_run_34 : decode cX10_run 34 = .ok (.iload_n 2, 1) := by decide +kernel
theorem dX10_run_35 : decode cX10_run 35 = .ok (.iconst 1, 1) := by decide +kernel
theorem dX10_run_36 : decode cX10_run 36 = .ok (.if_icmp .ne 19, 3) := by decide +kernel
theorem dX10_run_39 : decode cX10_run 39 = .ok (.aload_n 0, 1) := by decide +kernel
theorem dX10_run_40 : decode cX10_run 40 = .ok (.getfield 18, 3) := by decide +kernel
theorem dX10_run_43 : decode cX10_run 43 = .ok (.aload_n 3, 1) := by decide +kernel
theorem dX10_run_44 : decode cX10_run 44 = .ok (.getfield 130, 3) := by decide +kernel
theorem dX10_run_47 : decode cX10_run 47 = .ok (.invokevirtual 133, 3) := by decide +kernel
theorem dX10_run_50 : decode cX10_run 50 = .ok (.ifCond .ne 5, 3) := by decide +kernel
theorem dX10_run_53 : decode cX10_run 53 = .ok (.iconst 2, 1) := by decide +kernel
theorem dX10_run_54 : decode cX10_run 54 = .ok (.istore_n 2, 1) := by decide +kernel
theorem dX10_run_55 : decode cX10_run 55 = .ok (.iload_n 2, 1) := by decide +kernel
theorem dX10_run_56 : decode cX10_run 56 = .ok (.iconst 1, 1) := by decide +kernel
theorem dX10_run_57 : decode cX10_run 57 = .ok (.if_icmp .ne 8, 3) := by decide +kernel
theorem dX10_run_60 : decode cX10_run 60 = .ok (.aload_n 0, 1) := by decide +kernel
theorem dX10_run_61 : decode cX10_run 61 = .ok (.aload_n 3, 1) := by decide +kernel
theorem dX10_run_62 : decode cX10_run 62 = .ok (.invokevirtual 136, 3) := by decide +kernel
theorem dX10_run_65 : decode cX10_run 65 = .ok (.aload_n 3, 1) := by decide +kernel
theorem dX10_run_66 : decode cX10_run 66 = .ok (.iconst 0, 1) := by decide +kernel
theorem dX10_run_67 : decode cX10_run 67 = .ok (.putfield 130, 3) := by decide +kernel
theorem dX10_run_70 : decode cX10_run 70 = .ok (.iload_n 2, 1) := by decide +kernel
theorem dX10_run_71 : decode cX10_run 71 = .ok (.ireturn, 1) := by decide +kernel
set_option maxRecDepth 20000 in
theorem ggX10_at_X1_has : GoodIn wsX10_at wsX1_has := goodIn_r _ [11, 12, 36, 37, 38, 39] (by decide +kernel) (by decide +kernel)
set_option maxRecDepth 20000 in
theorem gX10_at_X1_has : GoodIn wsX10_at (wsV RX10 140 RX1 yX1_has wsX1_has) := goodIn_app (goodIn_of _ (by decide +kernel)) ggX10_at_X1_has
set_option maxRecDepth 20000 in
theorem ggX10_at_X1_digit : GoodIn wsX10_at wsX1_digit := goodIn_r _ [16, 17, 18, 19, 20, 21, 22, 23, 36, 37, 38, 39] (by decide +kernel) (by decide +kernel)
set_option maxRecDepth 20000 in
theorem gX10_at_X1_digit : GoodIn wsX10_at (wsV RX10 152 RX1 yX1_digit wsX1_digit) := goodIn_app (goodIn_of _ (by decide +kernel)) ggX10_at_X1_digit
theorem dX10_at_0 : decode cX10_at 0 = .ok (.aload_n 0, 1) := by decide +kernel
theorem dX10_at_1 : decode cX10_at 1 = .ok (.getfield 86, 3) := by decide +kernel
theorem dX10_at_4 : decode cX10_at 4 = .ok (.iload_n 1, 1) := by decide +kernel
theorem dX10_at_5 : decode cX10_at 5 = .ok (.invokevirtual 140, 3) := by decide +kernel
theorem dX10_at_8 : decode cX10_at 8 = .ok (.ifCond .eq 20, 3) := by decide +kernel
theorem dX10_at_11 : decode cX10_at 11 = .ok (.iload_n 2, 1) := by decide +kernel
theorem dX10_at_12 : decode cX10_at 12 = .ok (.ifCond .lt 16, 3) := by decide +kernel
theorem dX10_at_15 : decode cX10_at 15 = .ok (.iload_n 2, 1) := by decide +kernel
theorem dX10_at_16 : decode cX10_at 16 = .ok (.aload_n 0, 1) := by decide +kernel
theorem dX10_at_17 : decode cX10_at 17 = .ok (.getfield 86, 3) := by decide +kernel
theorem dX10_at_20 : decode cX10_at 20 = .ok (.getfield 141, 3) := by decide +kernel
theorem dX10_at_23 : decode cX10_at 23 = .ok (.iload_n 1, 1) := by decide +kernel
theorem dX10_at_24 : decode cX10_at 24 = .ok (.iaload, 1) := by decide +kernel
theorem dX10_at_25 : decode cX10_at 25 = .ok (.if_icmp .lt 11, 3) := by decide +kernel
theorem dX10_at_28 : decode cX10_at 28 = .ok (.new 145, 3) := by decide +kernel
theorem dX10_at_31 : decode cX10_at 31 = .ok (.dup, 1) := by decide +kernel
theorem dX10_at_32 : decode cX10_at 32 = .ok (.invokespecial 147, 3) := by decide +kernel
theorem dX10_at_35 : decode cX10_at 35 = .ok (.athrow, 1) := by decide +kernel
theorem dX10_at_36 : decode cX10_at 36 = .ok (.aload_n 0, 1) := by decide +kernel
theorem dX10_at_37 : decode cX10_at 37 = .ok (.getfield 86, 3) := by decide +kernel
theorem dX10_at_40 : decode cX10_at 40 = .ok (.getfield 148, 3) := by decide +kernel
theorem dX10_at_43 : decode cX10_at 43 = .ok (.iload_n 1, 1) := by decide +kernel
theorem dX10_at_44 : decode cX10_at 44 = .ok (.laload, 1) := by decide +kernel
theorem dX10_at_45 : decode cX10_at 45 = .ok (.lconst 0, 1) := by decide +kernel
theorem dX10_at_46 : decode cX10_at 46 = .ok (.lcmp, 1) := by decide +kernel
theorem dX10_at_47 : decode cX10_at 47 = .ok (.ifCond .ge 22, 3) := by decide +kernel
theorem dX10_at_50 : decode cX10_at 50 = .ok (.iload_n 2, 1) := by decide +kernel
theorem dX10_at_51 : decode cX10_at 51 = .ok (.aload_n 0, 1) := by decide +kernel
theorem dX10_at_52 : decode cX10_at 52 = .ok (.getfield 86, 3) := by decide +kernel
theorem dX10_at_55 : decode cX10_at 55 = .ok (.getfield 141, 3) := by decide +kernel
theorem dX10_at_58 : decode cX10_at 58 = .ok (.iload_n 1, 1) := by decide +kernel
theorem dX10_at_59 : decode cX10_at 59 = .ok (.iaload, 1) := by decide +kernel
theorem dX10_at_60 : decode cX10_at 60 = .ok (.iconst 1, 1) := by decide +kernel
theorem dX10_at_61 : decode cX10_at 61 = .ok (.isub, 1) := by decide +kernel
theorem dX10_at_62 : decode cX10_at 62 = .ok (.if_icmp .ne 7, 3) := by decide +kernel
theorem dX10_at_65 : decode cX10_at 65 = .ok (.iconst 1, 1) := by decide +kernel
theorem dX10_at_66 : decode cX10_at 66 = .ok (.goto 4, 3) := by decide +kernel
theorem dX10_at_69 : decode cX10_at 69 = .ok (.iconst 0, 1) := by decide +kernel
theorem dX10_at_70 : decode cX10_at 70 = .ok (.istore_n 3, 1) := by decide +kernel
theorem dX10_at_71 : decode cX10_at 71 = .ok (.iload_n 3, 1) := by decide +kernel
theorem dX10_at_72 : decode cX10_at 72 = .ok (.ifCond .eq 8, 3) := by decide +kernel
theorem dX10_at_75 : decode cX10_at 75 = .ok (.bipush 112, 2) := by decide +kernel
theorem dX10_at_77 : decode cX10_at 77 = .ok (.goto 5, 3) := by decide +kernel
theorem dX10_at_80 : decode cX10_at 80 = .ok (.bipush 48, 2) := by decide +kernel
theorem dX10_at_82 : decode cX10_at 82 = .ok (.aload_n 0, 1) := by decide +kernel
theorem dX10_at_83 : decode cX10_at 83 = .ok (.getfield 86, 3) := by decide +kernel
theorem dX10_at_86 : decode cX10_at 86 = .ok (.iload_n 1, 1) := by decide +kernel
theorem dX10_at_87 : decode cX10_at 87 = .ok (.iload_n 2, 1) := by decide +kernel
theorem dX10_at_88 : decode cX10_at 88 = .ok (.invokevirtual 152, 3) := by decide +kernel
theorem dX10_at_91 : decode cX10_at 91 = .ok (.iadd, 1) := by decide +kernel
theorem dX10_at_92 : decode cX10_at 92 = .ok (.i2b, 1) := by decide +kernel
theorem dX10_at_93 : decode cX10_at 93 = .ok (.ireturn, 1) := by decide +kernel
set_option maxRecDepth 20000 in
theorem ggX10_number_X1_has : GoodIn wsX10_number wsX1_has := goodIn_r _ [7, 8, 21, 22, 23, 24] (by decide +kernel) (by decide +kernel)
set_option maxRecDepth 20000 in
theorem gX10_number_X1_has : GoodIn wsX10_number (wsV RX10 140 RX1 yX1_has wsX1_has) := goodIn_app (goodIn_of _ (by decide +kernel)) ggX10_number_X1_has
theorem dX10_number_0 : decode cX10_number 0 = .ok (.aload_n 0, 1) := by decide +kernel
theorem dX10_number_1 : decode cX10_number 1 = .ok (.getfield 86, 3) := by decide +kernel
theorem dX10_number_4 : decode cX10_number 4 = .ok (.iload_n 1, 1) := by decide +kernel
theorem dX10_number_5 : decode cX10_number 5 = .ok (.invokevirtual 140, 3) := by decide +kernel
theorem dX10_number_8 : decode cX10_number 8 = .ok (.ifCond .eq 15, 3) := by decide +kernel
theorem dX10_number_11 : decode cX10_number 11 = .ok (.aload_n 0, 1) := by decide +kernel
theorem dX10_number_12 : decode cX10_number 12 = .ok (.getfield 86, 3) := by decide +kernel
theorem dX10_number_15 : decode cX10_number 15 = .ok (.getfield 148, 3) := by decide +kernel
theorem dX10_number_18 : decode cX10_number 18 = .ok (.iload_n 1, 1) := by decide +kernel
theorem dX10_number_19 : decode cX10_number 19 = .ok (.laload, 1) := by decide +kernel
theorem dX10_number_20 : decode cX10_number 20 = .ok (.goto 4, 3) := by decide +kernel
theorem dX10_number_23 : decode cX10_number 23 = .ok (.lconst 0, 1) := by decide +kernel
theorem dX10_number_24 : decode cX10_number 24 = .ok (.lreturn, 1) := by decide +kernel
set_option maxRecDepth 20000 in
theorem ggX10_record_X2_firstFrom : GoodIn wsX10_record wsX2_firstFrom := goodIn_r _ [9, 10, 11, 31, 32, 33] (by decide +kernel) (by decide +kernel)
set_option maxRecDepth 20000 in
theorem gX10_record_X2_firstFrom : GoodIn wsX10_record (wsV RX10 157 RX2 yX2_firstFrom wsX2_firstFrom) := goodIn_app (goodIn_of _ (by decide +kernel)) ggX10_record_X2_firstFrom
set_option maxRecDepth 20000 in
theorem ggX10_record_X10_lowest : GoodIn wsX10_record wsX10_lowest := goodIn_r _ [15] (by decide +kernel) (by decide +kernel)
set_option maxRecDepth 20000 in
theorem gX10_record_X10_lowest : GoodIn wsX10_record (va_wsS RX10 164 yX10_lowest wsX10_lowest) := goodIn_app (goodIn_of _ (by decide +kernel)) ggX10_record_X10_lowest
set_option maxRecDepth 20000 in
theorem ggX10_record_X10_highest : GoodIn wsX10_record wsX10_highest := goodIn_r _ [18] (by decide +kernel) (by decide +kernel)
set_option maxRecDepth 20000 in
theorem gX10_record_X10_highest : GoodIn wsX10_record (va_wsS RX10 168 yX10_highest wsX10_highest) := goodIn_app (goodIn_of _ (by decide +kernel)) ggX10_record_X10_highest
theorem dX10_record_0 : decode cX10_record 0 = .ok (.iload_n 1, 1) := by decide +kernel
theorem dX10_record_1 : decode cX10_record 1 = .ok (.ifCond .lt 8, 3) := by decide +kernel
theorem dX10_record_4 : decode cX10_record 4 = .ok (.iload_n 1, 1) := by decide +kernel
theorem dX10_record_5 : decode cX10_record 5 = .ok (.iconst 4, 1) := by decide +kernel
theorem dX10_record_6 : decode cX10_record 6 = .ok (.if_icmp .lt 5, 3) := by decide +kernel
theorem dX10_record_9 : decode cX10_record 9 = .ok (.iconst (-1), 1) := by decide +kernel
theorem dX10_record_10 : decode cX10_record 10 = .ok (.ireturn, 1) := by decide +kernel
theorem dX10_record_11 : decode cX10_record 11 = .ok (.aload_n 0, 1) := by decide +kernel
theorem dX10_record_12 : decode cX10_record 12 = .ok (.getfield 25, 3) := by decide +kernel
theorem dX10_record_15 : decode cX10_record 15 = .ok (.iload_n 1, 1) := by decide +kernel
theorem dX10_record_16 : decode cX10_record 16 = .ok (.ldc 156, 2) := by decide +kernel
theorem dX10_record_18 : decode cX10_record 18 = .ok (.imul, 1) := by decide +kernel
theorem dX10_record_19 : decode cX10_record 19 = .ok (.invokevirtual 157, 3) := by decide +kernel
theorem dX10_record_22 : decode cX10_record 22 = .ok (.istore 4, 2) := by decide +kernel
theorem dX10_record_24 : decode cX10_record 24 = .ok (.aload_n 0, 1) := by decide +kernel
theorem dX10_record_25 : decode cX10_record 25 = .ok (.getfield 25, 3) := by decide +kernel
theorem dX10_record_28 : decode cX10_record 28 = .ok (.iload_n 1, 1) := by decide +kernel
theorem dX10_record_29 : decode cX10_record 29 = .ok (.iconst 1, 1) := by decide +kernel
theorem dX10_record_30 : decode cX10_record 30 = .ok (.iadd, 1) := by decide +kernel
theorem dX10_record_31 : decode cX10_record 31 = .ok (.ldc 156, 2) := by decide +kernel
theorem dX10_record_33 : decode cX10_record 33 = .ok (.imul, 1) := by decide +kernel
theorem dX10_record_34 : decode cX10_record 34 = .ok (.invokevirtual 157, 3) := by decide +kernel
theorem dX10_record_37 : decode cX10_record 37 = .ok (.istore 5, 2) := by decide +kernel
theorem dX10_record_39 : decode cX10_record 39 = .ok (.iload_n 2, 1) := by decide +kernel
theorem dX10_record_40 : decode cX10_record 40 = .ok (.ifCond .lt 12, 3) := by decide +kernel
theorem dX10_record_43 : decode cX10_record 43 = .ok (.iload_n 2, 1) := by decide +kernel
theorem dX10_record_44 : decode cX10_record 44 = .ok (.iload 5, 2) := by decide +kernel
theorem dX10_record_46 : decode cX10_record 46 = .ok (.iload 4, 2) := by decide +kernel
theorem dX10_record_48 : decode cX10_record 48 = .ok (.isub, 1) := by decide +kernel
theorem dX10_record_49 : decode cX10_record 49 = .ok (.if_icmp .lt 5, 3) := by decide +kernel
theorem dX10_record_52 : decode cX10_record 52 = .ok (.iconst (-1), 1) := by decide +kernel
theorem dX10_record_53 : decode cX10_record 53 = .ok (.ireturn, 1) := by decide +kernel
theorem dX10_record_54 : decode cX10_record 54 = .ok (.iload_n 3, 1) := by decide +kernel
theorem dX10_record_55 : decode cX10_record 55 = .ok (.tableswitch 75 0 2 #[25, 43, 59], 25) := by decide +kernel
theorem dX10_record_80 : decode cX10_record 80 = .ok (.aload_n 0, 1) := by decide +kernel
theorem dX10_record_81 : decode cX10_record 81 = .ok (.getfield 25, 3) := by decide +kernel
theorem dX10_record_84 : decode cX10_record 84 = .ok (.getfield 160, 3) := by decide +kernel
theorem dX10_record_87 : decode cX10_record 87 = .ok (.iload 4, 2) := by decide +kernel
theorem dX10_record_89 : decode cX10_record 89 = .ok (.iload_n 2, 1) := by decide +kernel
theorem dX10_record_90 : decode cX10_record 90 = .ok (.iadd, 1) := by decide +kernel
theorem dX10_record_91 : decode cX10_record 91 = .ok (.iaload, 1) := by decide +kernel
theorem dX10_record_92 : decode cX10_record 92 = .ok (.iload_n 1, 1) := by decide +kernel
theorem dX10_record_93 : decode cX10_record 93 = .ok (.ldc 156, 2) := by decide +kernel
theorem dX10_record_95 : decode cX10_record 95 = .ok (.imul, 1) := by decide +kernel
theorem dX10_record_96 : decode cX10_record 96 = .ok (.isub, 1) := by decide +kernel
theorem dX10_record_97 : decode cX10_record 97 = .ok (.ireturn, 1) := by decide +kernel
theorem dX10_record_98 : decode cX10_record 98 = .ok (.aload_n 0, 1) := by decide +kernel
theorem dX10_record_99 : decode cX10_record 99 = .ok (.getfield 25, 3) := by decide +kernel
theorem dX10_record_102 : decode cX10_record 102 = .ok (.getfield 163, 3) := by decide +kernel
theorem dX10_record_105 : decode cX10_record 105 = .ok (.iload 4, 2) := by decide +kernel
theorem dX10_record_107 : decode cX10_record 107 = .ok (.iload_n 2, 1) := by decide +kernel
theorem dX10_record_108 : decode cX10_record 108 = .ok (.iadd, 1) := by decide +kernel
theorem dX10_record_109 : decode cX10_record 109 = .ok (.laload, 1) := by decide +kernel
theorem dX10_record_110 : decode cX10_record 110 = .ok (.invokestatic 164, 3) := by decide +kernel
theorem dX10_record_113 : decode cX10_record 113 = .ok (.ireturn, 1) := by decide +kernel
theorem dX10_record_114 : decode cX10_record 114 = .ok (.aload_n 0, 1) := by decide +kernel
theorem dX10_record_115 : decode cX10_record 115 = .ok (.getfield 25, 3) := by decide +kernel
theorem dX10_record_118 : decode cX10_record 118 = .ok (.getfield 163, 3) := by decide +kernel
theorem dX10_record_121 : decode cX10_record 121 = .ok (.iload 4, 2) := by decide +kernel
theorem dX10_record_123 : decode cX10_record 123 = .ok (.iload_n 2, 1) := by decide +kernel
theorem dX10_record_124 : decode cX10_record 124 = .ok (.iadd, 1) := by decide +kernel
theorem dX10_record_125 : decode cX10_record 125 = .ok (.laload, 1) := by decide +kernel
theorem dX10_record_126 : decode cX10_record 126 = .ok (.invokestatic 168, 3) := by decide +kernel
theorem dX10_record_129 : decode cX10_record 129 = .ok (.ireturn, 1) := by decide +kernel
theorem dX10_record_130 : decode cX10_record 130 = .ok (.iconst (-1), 1) := by decide +kernel
theorem dX10_record_131 : decode cX10_record 131 = .ok (.ireturn, 1) := by decide +kernel
set_option maxRecDepth 20000 in
theorem ggX10_act_X10_isOpenUnit : GoodIn wsX10_act wsX10_isOpenUnit := goodIn_r _ [6] (by decide +kernel) (by decide +kernel)
set_option maxRecDepth 20000 in
theorem gX10_act_X10_isOpenUnit : GoodIn wsX10_act (va_wsS RX10 171 yX10_isOpenUnit wsX10_isOpenUnit) := goodIn_app (goodIn_of _ (by decide +kernel)) ggX10_act_X10_isOpenUnit
set_option maxRecDepth 20000 in
theorem ggX10_act_X10_refuse : GoodIn wsX10_act wsX10_refuse := goodIn_r _ [10, 11, 33, 34, 35, 36, 37, 38, 39, 40, 41, 42, 43, 44] (by decide +kernel) (by decide +kernel)
set_option maxRecDepth 20000 in
theorem gX10_act_X10_refuse : GoodIn wsX10_act (wsV RX10 95 RX10 yX10_refuse wsX10_refuse) := goodIn_app (goodIn_of _ (by decide +kernel)) ggX10_act_X10_refuse
set_option maxRecDepth 20000 in
theorem ggX10_act_X10_mayBeDone : GoodIn wsX10_act wsX10_mayBeDone := goodIn_r _ [14, 15, 16, 17, 18, 19, 20, 5, 21, 22, 23] (by decide +kernel) (by decide +kernel)
set_option maxRecDepth 20000 in
theorem gX10_act_X10_mayBeDone : GoodIn wsX10_act (va_wsS RX10 174 yX10_mayBeDone wsX10_mayBeDone) := goodIn_app (goodIn_of _ (by decide +kernel)) ggX10_act_X10_mayBeDone
set_option maxRecDepth 20000 in
theorem ggX10_act_X0_add : GoodIn wsX10_act wsX0_add := goodIn_r _ [28, 29, 30, 31, 32, 45, 46, 47] (by decide +kernel) (by decide +kernel)
set_option maxRecDepth 20000 in
theorem gX10_act_X0_add : GoodIn wsX10_act (wsV RX10 178 RX0 yX0_add wsX0_add) := goodIn_app (goodIn_of _ (by decide +kernel)) ggX10_act_X0_add
theorem dX10_act_0 : decode cX10_act 0 = .ok (.iload_n 1, 1) := by decide +kernel
theorem dX10_act_1 : decode cX10_act 1 = .ok (.invokestatic 171, 3) := by decide +kernel
theorem dX10_act_4 : decode cX10_act 4 = .ok (.ifCond .eq 12, 3) := by decide +kernel
theorem dX10_act_7 : decode cX10_act 7 = .ok (.iload_n 2, 1) := by decide +kernel
theorem dX10_act_8 : decode cX10_act 8 = .ok (.ifCond .lt 8, 3) := by decide +kernel
theorem dX10_act_11 : decode cX10_act 11 = .ok (.iload_n 2, 1) := by decide +kernel
theorem dX10_act_12 : decode cX10_act 12 = .ok (.iconst 4, 1) := by decide +kernel
theorem dX10_act_13 : decode cX10_act 13 = .ok (.if_icmp .le 10, 3) := by decide +kernel
theorem dX10_act_16 : decode cX10_act 16 = .ok (.aload_n 0, 1) := by decide +kernel
theorem dX10_act_17 : decode cX10_act 17 = .ok (.bipush (-2), 2) := by decide +kernel
theorem dX10_act_19 : decode cX10_act 19 = .ok (.invokevirtual 95, 3) := by decide +kernel
theorem dX10_act_22 : decode cX10_act 22 = .ok (.ireturn, 1) := by decide +kernel
theorem dX10_act_23 : decode cX10_act 23 = .ok (.iload_n 2, 1) := by decide +kernel
theorem dX10_act_24 : decode cX10_act 24 = .ok (.lload_n 3, 1) := by decide +kernel
theorem dX10_act_25 : decode cX10_act 25 = .ok (.lload 5, 2) := by decide +kernel
theorem dX10_act_27 : decode cX10_act 27 = .ok (.invokestatic 174, 3) := by decide +kernel
theorem dX10_act_30 : decode cX10_act 30 = .ok (.ifCond .ne 10, 3) := by decide +kernel
theorem dX10_act_33 : decode cX10_act 33 = .ok (.aload_n 0, 1) := by decide +kernel
theorem dX10_act_34 : decode cX10_act 34 = .ok (.bipush (-4), 2) := by decide +kernel
theorem dX10_act_36 : decode cX10_act 36 = .ok (.invokevirtual 95, 3) := by decide +kernel
theorem dX10_act_39 : decode cX10_act 39 = .ok (.ireturn, 1) := by decide +kernel
theorem dX10_act_40 : decode cX10_act 40 = .ok (.aload_n 0, 1) := by decide +kernel
theorem dX10_act_41 : decode cX10_act 41 = .ok (.getfield 11, 3) := by decide +kernel
theorem dX10_act_44 : decode cX10_act 44 = .ok (.iload_n 1, 1) := by decide +kernel
theorem dX10_act_45 : decode cX10_act 45 = .ok (.aaload, 1) := by decide +kernel
theorem dX10_act_46 : decode cX10_act 46 = .ok (.iload_n 2, 1) := by decide +kernel
theorem dX10_act_47 : decode cX10_act 47 = .ok (.lload_n 3, 1) := by decide +kernel
theorem dX10_act_48 : decode cX10_act 48 = .ok (.l2i, 1) := by decide +kernel
theorem dX10_act_49 : decode cX10_act 49 = .ok (.lload 5, 2) := by decide +kernel
theorem dX10_act_51 : decode cX10_act 51 = .ok (.invokevirtual 178, 3) := by decide +kernel
theorem dX10_act_54 : decode cX10_act 54 = .ok (.ifCond .ne 9, 3) := by decide +kernel
theorem dX10_act_57 : decode cX10_act 57 = .ok (.aload_n 0, 1) := by decide +kernel
theorem dX10_act_58 : decode cX10_act 58 = .ok (.iconst (-1), 1) := by decide +kernel
theorem dX10_act_59 : decode cX10_act 59 = .ok (.invokevirtual 95, 3) := by decide +kernel
theorem dX10_act_62 : decode cX10_act 62 = .ok (.ireturn, 1) := by decide +kernel
theorem dX10_act_63 : decode cX10_act 63 = .ok (.aload_n 0, 1) := by decide +kernel
theorem dX10_act_64 : decode cX10_act 64 = .ok (.getfield 11, 3) := by decide +kernel
theorem dX10_act_67 : decode cX10_act 67 = .ok (.iload_n 1, 1) := by decide +kernel
theorem dX10_act_68 : decode cX10_act 68 = .ok (.aaload, 1) := by decide +kernel
theorem dX10_act_69 : decode cX10_act 69 = .ok (.getfield 130, 3) := by decide +kernel
theorem dX10_act_72 : decode cX10_act 72 = .ok (.ireturn, 1) := by decide +kernel
set_option maxRecDepth 20000 in
theorem ggX10_commit_X10_isOpenUnit : GoodIn wsX10_commit wsX10_isOpenUnit := goodIn_r _ [7] (by decide +kernel) (by decide +kernel)
set_option maxRecDepth 20000 in
theorem gX10_commit_X10_isOpenUnit : GoodIn wsX10_commit (va_wsS RX10 171 yX10_isOpenUnit wsX10_isOpenUnit) := goodIn_app (goodIn_of _ (by decide +kernel)) ggX10_commit_X10_isOpenUnit
set_option maxRecDepth 20000 in
theorem ggX10_commit_X10_refuse : GoodIn wsX10_commit wsX10_refuse := goodIn_r _ [11, 12, 98, 99, 100, 101, 102, 103, 104, 105, 106, 107, 108, 109] (by decide +kernel) (by decide +kernel)
set_option maxRecDepth 20000 in
theorem gX10_commit_X10_refuse : GoodIn wsX10_commit (wsV RX10 95 RX10 yX10_refuse wsX10_refuse) := goodIn_app (goodIn_of _ (by decide +kernel)) ggX10_commit_X10_refuse
set_option maxRecDepth 20000 in
theorem ggX10_commit_X0_hasRoomFor : GoodIn wsX10_commit wsX0_hasRoomFor := goodIn_r _ [17, 18, 19, 110, 111, 112] (by decide +kernel) (by decide +kernel)
set_option maxRecDepth 20000 in
theorem gX10_commit_X0_hasRoomFor : GoodIn wsX10_commit (wsV RX10 133 RX0 yX0_hasRoomFor wsX0_hasRoomFor) := goodIn_app (goodIn_of _ (by decide +kernel)) ggX10_commit_X0_hasRoomFor
set_option maxRecDepth 20000 in
theorem ggX10_commit_X10_doAll : GoodIn wsX10_commit wsX10_doAll := goodIn_r _ [23, 2, 24, 3, 25, 26, 27, 16, 28, 18, 29, 30, 31, 32, 33, 34, 35, 36, 6, 37, 38, 39, 40, 41, 42, 43, 44, 45, 46, 47, 48, 49, 50, 51, 52, 53, 54, 55, 56, 57, 58, 59, 60, 61, 62, 63, 64, 65, 66, 67, 68, 69, 70, 71, 72, 73, 74, 75, 76, 77, 78, 79, 80, 81, 82, 83, 84, 85, 86, 87, 88, 89, 90, 91, 92, 93, 94, 95, 96, 19, 97, 110, 111, 112, 98, 99, 100, 101, 102, 103, 104, 105, 106, 107, 108, 109, 113, 114, 115, 116, 117, 118, 119, 120, 121, 122] (by decide +kernel) (by decide +kernel)
set_option maxRecDepth 20000 in
theorem gX10_commit_X10_doAll : GoodIn wsX10_commit (wsV RX10 136 RX10 yX10_doAll wsX10_doAll) := goodIn_app (goodIn_of _ (by decide +kernel)) ggX10_commit_X10_doAll
theorem dX10_commit_0 : decode cX10_commit 0 = .ok (.iload_n 1, 1) := by decide +kernel
theorem dX10_commit_1 : decode cX10_commit 1 = .ok (.invokestatic 171, 3) := by decide +kernel
theorem dX10_commit_4 : decode cX10_commit 4 = .ok (.ifCond .ne 10, 3) := by decide +kernel
theorem dX10_commit_7 : decode cX10_commit 7 = .ok (.aload_n 0, 1) := by decide +kernel
theorem dX10_commit_8 : decode cX10_commit 8 = .ok (.bipush (-2), 2) := by decide +kernel
theorem dX10_commit_10 : decode cX10_commit 10 = .ok (.invokevirtual 95, 3) := by decide +kernel
theorem dX10_commit_13 : decode cX10_commit 13 = .ok (.ireturn, 1) := by decide +kernel
theorem dX10_commit_14 : decode cX10_commit 14 = .ok (.aload_n 0, 1) := by decide +kernel
theorem dX10_commit_15 : decode cX10_commit 15 = .ok (.getfield 11, 3) := by decide +kernel
theorem dX10_commit_18 : decode cX10_commit 18 = .ok (.iload_n 1, 1) := by decide +kernel
theorem dX10_commit_19 : decode cX10_commit 19 = .ok (.aaload, 1) := by decide +kernel
theorem dX10_commit_20 : decode cX10_commit 20 = .ok (.astore_n 2, 1) := by decide +kernel
theorem dX10_commit_21 : decode cX10_commit 21 = .ok (.aload_n 2, 1) := by decide +kernel
theorem dX10_commit_22 : decode cX10_commit 22 = .ok (.getfield 130, 3) := by decide +kernel
theorem dX10_commit_25 : decode cX10_commit 25 = .ok (.istore_n 3, 1) := by decide +kernel
theorem dX10_commit_26 : decode cX10_commit 26 = .ok (.aload_n 0, 1) := by decide +kernel
theorem dX10_commit_27 : decode cX10_commit 27 = .ok (.getfield 18, 3) := by decide +kernel
theorem dX10_commit_30 : decode cX10_commit 30 = .ok (.iload_n 3, 1) := by decide +kernel
theorem dX10_commit_31 : decode cX10_commit 31 = .ok (.invokevirtual 133, 3) := by decide +kernel
theorem dX10_commit_34 : decode cX10_commit 34 = .ok (.ifCond .ne 9, 3) := by decide +kernel
theorem dX10_commit_37 : decode cX10_commit 37 = .ok (.aload_n 0, 1) := by decide +kernel
theorem dX10_commit_38 : decode cX10_commit 38 = .ok (.iconst (-1), 1) := by decide +kernel
theorem dX10_commit_39 : decode cX10_commit 39 = .ok (.invokevirtual 95, 3) := by decide +kernel
theorem dX10_commit_42 : decode cX10_commit 42 = .ok (.ireturn, 1) := by decide +kernel
theorem dX10_commit_43 : decode cX10_commit 43 = .ok (.aload_n 0, 1) := by decide +kernel
theorem dX10_commit_44 : decode cX10_commit 44 = .ok (.aload_n 2, 1) := by decide +kernel
theorem dX10_commit_45 : decode cX10_commit 45 = .ok (.invokevirtual 136, 3) := by decide +kernel
theorem dX10_commit_48 : decode cX10_commit 48 = .ok (.aload_n 2, 1) := by decide +kernel
theorem dX10_commit_49 : decode cX10_commit 49 = .ok (.iconst 0, 1) := by decide +kernel
theorem dX10_commit_50 : decode cX10_commit 50 = .ok (.putfield 130, 3) := by decide +kernel
theorem dX10_commit_53 : decode cX10_commit 53 = .ok (.iload_n 3, 1) := by decide +kernel
theorem dX10_commit_54 : decode cX10_commit 54 = .ok (.ireturn, 1) := by decide +kernel
set_option maxRecDepth 20000 in
theorem ggX10_second_X5_countSame : GoodIn wsX10_second wsX5_countSame := goodIn_r _ [12, 13, 14, 15, 16, 17, 11, 18, 19, 20, 21, 22, 23, 24, 25, 26, 27, 28, 29, 30, 31, 32, 33, 34, 35, 36, 37, 38, 39, 40, 41, 42, 43, 44, 45, 46, 47, 48, 49, 50, 51, 52, 53, 54, 134, 135, 136, 137, 138, 139, 140, 141, 142] (by decide +kernel) (by decide +kernel)
set_option maxRecDepth 20000 in
theorem gX10_second_X5_countSame : GoodIn wsX10_second (wsV RX10 182 RX5 yX5_countSame wsX5_countSame) := goodIn_app (goodIn_of _ (by decide +kernel)) ggX10_second_X5_countSame
set_option maxRecDepth 20000 in
theorem ggX10_second_X7_countSame : GoodIn wsX10_second wsX7_countSame := goodIn_r _ [59, 60, 61, 62, 63, 21, 22, 23, 24, 25, 26, 64, 41, 42, 43, 65, 66, 67, 58, 68, 69, 70, 71, 72, 73, 74, 75, 76, 77, 78, 79, 80, 81, 82, 83, 84, 85, 86, 87, 88, 89, 90, 91, 92, 93, 94, 95, 96, 97, 98, 99, 143, 144, 145, 146, 147, 148, 149, 137, 138, 139, 150, 151, 152, 153, 154, 155] (by decide +kernel) (by decide +kernel)
set_option maxRecDepth 20000 in
theorem gX10_second_X7_countSame : GoodIn wsX10_second (wsV RX10 186 RX7 yX7_countSame wsX7_countSame) := goodIn_app (goodIn_of _ (by decide +kernel)) ggX10_second_X7_countSame
set_option maxRecDepth 20000 in
theorem ggX10_second_X6_countSame : GoodIn wsX10_second wsX6_countSame := goodIn_r _ [104, 105, 106, 107, 108, 109, 110, 103, 111, 112, 113, 21, 22, 23, 24, 25, 26, 114, 41, 42, 43, 115, 116, 117, 118, 119, 120, 121, 137, 138, 139, 156, 157] (by decide +kernel) (by decide +kernel)
set_option maxRecDepth 20000 in
theorem gX10_second_X6_countSame : GoodIn wsX10_second (wsV RX10 189 RX6 yX6_countSame wsX6_countSame) := goodIn_app (goodIn_of _ (by decide +kernel)) ggX10_second_X6_countSame
theorem dX10_second_0 : decode cX10_second 0 = .ok (.aload_n 0, 1) := by decide +kernel
theorem dX10_second_1 : decode cX10_second 1 = .ok (.getfield 46, 3) := by decide +kernel
theorem dX10_second_4 : decode cX10_second 4 = .ok (.aload_n 0, 1) := by decide +kernel
theorem dX10_second_5 : decode cX10_second 5 = .ok (.getfield 18, 3) := by decide +kernel
theorem dX10_second_8 : decode cX10_second 8 = .ok (.aload_n 0, 1) := by decide +kernel
theorem dX10_second_9 : decode cX10_second 9 = .ok (.getfield 25, 3) := by decide +kernel
theorem dX10_second_12 : decode cX10_second 12 = .ok (.invokevirtual 182, 3) := by decide +kernel
theorem dX10_second_15 : decode cX10_second 15 = .ok (.aload_n 0, 1) := by decide +kernel
theorem dX10_second_16 : decode cX10_second 16 = .ok (.getfield 53, 3) := by decide +kernel
theorem dX10_second_19 : decode cX10_second 19 = .ok (.aload_n 0, 1) := by decide +kernel
theorem dX10_second_20 : decode cX10_second 20 = .ok (.getfield 18, 3) := by decide +kernel
theorem dX10_second_23 : decode cX10_second 23 = .ok (.aload_n 0, 1) := by decide +kernel
theorem dX10_second_24 : decode cX10_second 24 = .ok (.getfield 32, 3) := by decide +kernel
theorem dX10_second_27 : decode cX10_second 27 = .ok (.invokevirtual 186, 3) := by decide +kernel
theorem dX10_second_30 : decode cX10_second 30 = .ok (.iadd, 1) := by decide +kernel
theorem dX10_second_31 : decode cX10_second 31 = .ok (.aload_n 0, 1) := by decide +kernel
theorem dX10_second_32 : decode cX10_second 32 = .ok (.getfield 60, 3) := by decide +kernel
theorem dX10_second_35 : decode cX10_second 35 = .ok (.aload_n 0, 1) := by decide +kernel
theorem dX10_second_36 : decode cX10_second 36 = .ok (.getfield 18, 3) := by decide +kernel
theorem dX10_second_39 : decode cX10_second 39 = .ok (.aload_n 0, 1) := by decide +kernel
theorem dX10_second_40 : decode cX10_second 40 = .ok (.getfield 39, 3) := by decide +kernel
theorem dX10_second_43 : decode cX10_second 43 = .ok (.invokevirtual 189, 3) := by decide +kernel
theorem dX10_second_46 : decode cX10_second 46 = .ok (.iadd, 1) := by decide +kernel
theorem dX10_second_47 : decode cX10_second 47 = .ok (.ireturn, 1) := by decide +kernel
set_option maxRecDepth 20000 in
theorem ggX10_segment_X10_lowest : GoodIn wsX10_segment wsX10_lowest := goodIn_r _ [10] (by decide +kernel) (by decide +kernel)
set_option maxRecDepth 20000 in
theorem gX10_segment_X10_lowest : GoodIn wsX10_segment (va_wsS RX10 164 yX10_lowest wsX10_lowest) := goodIn_app (goodIn_of _ (by decide +kernel)) ggX10_segment_X10_lowest
set_option maxRecDepth 20000 in
theorem ggX10_segment_X10_highest : GoodIn wsX10_segment wsX10_highest := goodIn_r _ [13] (by decide +kernel) (by decide +kernel)
set_option maxRecDepth 20000 in
theorem gX10_segment_X10_highest : GoodIn wsX10_segment (va_wsS RX10 168 yX10_highest wsX10_highest) := goodIn_app (goodIn_of _ (by decide +kernel)) ggX10_segment_X10_highest
theorem dX10_segment_0 : decode cX10_segment 0 = .ok (.iload_n 1, 1) := by decide +kernel
theorem dX10_segment_1 : decode cX10_segment 1 = .ok (.ifCond .lt 14, 3) := by decide +kernel
theorem dX10_segment_4 : decode cX10_segment 4 = .ok (.iload_n 1, 1) := by decide +kernel
theorem dX10_segment_5 : decode cX10_segment 5 = .ok (.aload_n 0, 1) := by decide +kernel
theorem dX10_segment_6 : decode cX10_segment 6 = .ok (.getfield 32, 3) := by decide +kernel
theorem dX10_segment_9 : decode cX10_segment 9 = .ok (.getfield 192, 3) := by decide +kernel
theorem dX10_segment_12 : decode cX10_segment 12 = .ok (.if_icmp .lt 5, 3) := by decide +kernel
theorem dX10_segment_15 : decode cX10_segment 15 = .ok (.iconst (-1), 1) := by decide +kernel
theorem dX10_segment_16 : decode cX10_segment 16 = .ok (.ireturn, 1) := by decide +kernel
theorem dX10_segment_17 : decode cX10_segment 17 = .ok (.aload_n 0, 1) := by decide +kernel
theorem dX10_segment_18 : decode cX10_segment 18 = .ok (.getfield 32, 3) := by decide +kernel
theorem dX10_segment_21 : decode cX10_segment 21 = .ok (.getfield 195, 3) := by decide +kernel
theorem dX10_segment_24 : decode cX10_segment 24 = .ok (.iload_n 1, 1) := by decide +kernel
theorem dX10_segment_25 : decode cX10_segment 25 = .ok (.iaload, 1) := by decide +kernel
theorem dX10_segment_26 : decode cX10_segment 26 = .ok (.istore_n 3, 1) := by decide +kernel
theorem dX10_segment_27 : decode cX10_segment 27 = .ok (.iload_n 2, 1) := by decide +kernel
theorem dX10_segment_28 : decode cX10_segment 28 = .ok (.tableswitch 84 0 4 #[36, 38, 48, 58, 71], 36) := by decide +kernel
theorem dX10_segment_64 : decode cX10_segment 64 = .ok (.iload_n 3, 1) := by decide +kernel
theorem dX10_segment_65 : decode cX10_segment 65 = .ok (.ireturn, 1) := by decide +kernel
theorem dX10_segment_66 : decode cX10_segment 66 = .ok (.aload_n 0, 1) := by decide +kernel
theorem dX10_segment_67 : decode cX10_segment 67 = .ok (.getfield 32, 3) := by decide +kernel
theorem dX10_segment_70 : decode cX10_segment 70 = .ok (.getfield 198, 3) := by decide +kernel
theorem dX10_segment_73 : decode cX10_segment 73 = .ok (.iload_n 3, 1) := by decide +kernel
theorem dX10_segment_74 : decode cX10_segment 74 = .ok (.iaload, 1) := by decide +kernel
theorem dX10_segment_75 : decode cX10_segment 75 = .ok (.ireturn, 1) := by decide +kernel
theorem dX10_segment_76 : decode cX10_segment 76 = .ok (.aload_n 0, 1) := by decide +kernel
theorem dX10_segment_77 : decode cX10_segment 77 = .ok (.getfield 32, 3) := by decide +kernel
theorem dX10_segment_80 : decode cX10_segment 80 = .ok (.getfield 201, 3) := by decide +kernel
theorem dX10_segment_83 : decode cX10_segment 83 = .ok (.iload_n 3, 1) := by decide +kernel
theorem dX10_segment_84 : decode cX10_segment 84 = .ok (.iaload, 1) := by decide +kernel
theorem dX10_segment_85 : decode cX10_segment 85 = .ok (.ireturn, 1) := by decide +kernel
theorem dX10_segment_86 : decode cX10_segment 86 = .ok (.aload_n 0, 1) := by decide +kernel
theorem dX10_segment_87 : decode cX10_segment 87 = .ok (.getfield 32, 3) := by decide +kernel
theorem dX10_segment_90 : decode cX10_segment 90 = .ok (.getfield 204, 3) := by decide +kernel
theorem dX10_segment_93 : decode cX10_segment 93 = .ok (.iload_n 3, 1) := by decide +kernel
theorem dX10_segment_94 : decode cX10_segment 94 = .ok (.laload, 1) := by decide +kernel
theorem dX10_segment_95 : decode cX10_segment 95 = .ok (.invokestatic 164, 3) := by decide +kernel
theorem dX10_segment_98 : decode cX10_segment 98 = .ok (.ireturn, 1) := by decide +kernel
theorem dX10_segment_99 : decode cX10_segment 99 = .ok (.aload_n 0, 1) := by decide +kernel
theorem dX10_segment_100 : decode cX10_segment 100 = .ok (.getfield 32, 3) := by decide +kernel
theorem dX10_segment_103 : decode cX10_segment 103 = .ok (.getfield 204, 3) := by decide +kernel
theorem dX10_segment_106 : decode cX10_segment 106 = .ok (.iload_n 3, 1) := by decide +kernel
theorem dX10_segment_107 : decode cX10_segment 107 = .ok (.laload, 1) := by decide +kernel
theorem dX10_segment_108 : decode cX10_segment 108 = .ok (.invokestatic 168, 3) := by decide +kernel
theorem dX10_segment_111 : decode cX10_segment 111 = .ok (.ireturn, 1) := by decide +kernel
theorem dX10_segment_112 : decode cX10_segment 112 = .ok (.iconst (-1), 1) := by decide +kernel
theorem dX10_segment_113 : decode cX10_segment 113 = .ok (.ireturn, 1) := by decide +kernel
set_option maxRecDepth 20000 in
theorem ggX10_screen_X10_placeIndex : GoodIn wsX10_screen wsX10_placeIndex := goodIn_r _ [6] (by decide +kernel) (by decide +kernel)
set_option maxRecDepth 20000 in
theorem gX10_screen_X10_placeIndex : GoodIn wsX10_screen (va_wsS RX10 208 yX10_placeIndex wsX10_placeIndex) := goodIn_app (goodIn_of _ (by decide +kernel)) ggX10_screen_X10_placeIndex
theorem dX10_screen_0 : decode cX10_screen 0 = .ok (.iload_n 1, 1) := by decide +kernel
theorem dX10_screen_1 : decode cX10_screen 1 = .ok (.iconst 1, 1) := by decide +kernel
theorem dX10_screen_2 : decode cX10_screen 2 = .ok (.if_icmp .lt 20, 3) := by decide +kernel
theorem dX10_screen_5 : decode cX10_screen 5 = .ok (.iload_n 1, 1) := by decide +kernel
theorem dX10_screen_6 : decode cX10_screen 6 = .ok (.bipush 24, 2) := by decide +kernel
theorem dX10_screen_8 : decode cX10_screen 8 = .ok (.if_icmp .gt 14, 3) := by decide +kernel
theorem dX10_screen_11 : decode cX10_screen 11 = .ok (.iload_n 2, 1) := by decide +kernel
theorem dX10_screen_12 : decode cX10_screen 12 = .ok (.iconst 1, 1) := by decide +kernel
theorem dX10_screen_13 : decode cX10_screen 13 = .ok (.if_icmp .lt 9, 3) := by decide +kernel
theorem dX10_screen_16 : decode cX10_screen 16 = .ok (.iload_n 2, 1) := by decide +kernel
theorem dX10_screen_17 : decode cX10_screen 17 = .ok (.bipush 80, 2) := by decide +kernel
theorem dX10_screen_19 : decode cX10_screen 19 = .ok (.if_icmp .le 5, 3) := by decide +kernel
theorem dX10_screen_22 : decode cX10_screen 22 = .ok (.iconst (-1), 1) := by decide +kernel
theorem dX10_screen_23 : decode cX10_screen 23 = .ok (.ireturn, 1) := by decide +kernel
theorem dX10_screen_24 : decode cX10_screen 24 = .ok (.aload_n 0, 1) := by decide +kernel
theorem dX10_screen_25 : decode cX10_screen 25 = .ok (.getfield 39, 3) := by decide +kernel
theorem dX10_screen_28 : decode cX10_screen 28 = .ok (.getfield 205, 3) := by decide +kernel
theorem dX10_screen_31 : decode cX10_screen 31 = .ok (.iload_n 1, 1) := by decide +kernel
theorem dX10_screen_32 : decode cX10_screen 32 = .ok (.bipush 100, 2) := by decide +kernel
theorem dX10_screen_34 : decode cX10_screen 34 = .ok (.imul, 1) := by decide +kernel
theorem dX10_screen_35 : decode cX10_screen 35 = .ok (.iload_n 2, 1) := by decide +kernel
theorem dX10_screen_36 : decode cX10_screen 36 = .ok (.iadd, 1) := by decide +kernel
theorem dX10_screen_37 : decode cX10_screen 37 = .ok (.invokestatic 208, 3) := by decide +kernel
theorem dX10_screen_40 : decode cX10_screen 40 = .ok (.baload, 1) := by decide +kernel
theorem dX10_screen_41 : decode cX10_screen 41 = .ok (.istore_n 3, 1) := by decide +kernel
theorem dX10_screen_42 : decode cX10_screen 42 = .ok (.iload_n 3, 1) := by decide +kernel
theorem dX10_screen_43 : decode cX10_screen 43 = .ok (.ifCond .ne 8, 3) := by decide +kernel
theorem dX10_screen_46 : decode cX10_screen 46 = .ok (.bipush 32, 2) := by decide +kernel
theorem dX10_screen_48 : decode cX10_screen 48 = .ok (.goto 4, 3) := by decide +kernel
theorem dX10_screen_51 : decode cX10_screen 51 = .ok (.iload_n 3, 1) := by decide +kernel
theorem dX10_screen_52 : decode cX10_screen 52 = .ok (.ireturn, 1) := by decide +kernel
set_option maxRecDepth 20000 in
theorem ggX10_real_X1_has : GoodIn wsX10_real wsX1_has := goodIn_r _ [8, 9, 22, 23, 24, 25] (by decide +kernel) (by decide +kernel)
set_option maxRecDepth 20000 in
theorem gX10_real_X1_has : GoodIn wsX10_real (wsV RX10 140 RX1 yX1_has wsX1_has) := goodIn_app (goodIn_of _ (by decide +kernel)) ggX10_real_X1_has
theorem dX10_real_0 : decode cX10_real 0 = .ok (.aload_n 0, 1) := by decide +kernel
theorem dX10_real_1 : decode cX10_real 1 = .ok (.getfield 86, 3) := by decide +kernel
theorem dX10_real_4 : decode cX10_real 4 = .ok (.iload_n 1, 1) := by decide +kernel
theorem dX10_real_5 : decode cX10_real 5 = .ok (.invokevirtual 140, 3) := by decide +kernel
theorem dX10_real_8 : decode cX10_real 8 = .ok (.ifCond .eq 20, 3) := by decide +kernel
theorem dX10_real_11 : decode cX10_real 11 = .ok (.aload_n 0, 1) := by decide +kernel
theorem dX10_real_12 : decode cX10_real 12 = .ok (.getfield 86, 3) := by decide +kernel
theorem dX10_real_15 : decode cX10_real 15 = .ok (.getfield 148, 3) := by decide +kernel
theorem dX10_real_18 : decode cX10_real 18 = .ok (.iload_n 1, 1) := by decide +kernel
theorem dX10_real_19 : decode cX10_real 19 = .ok (.laload, 1) := by decide +kernel
theorem dX10_real_20 : decode cX10_real 20 = .ok (.l2d, 1) := by decide +kernel
theorem dX10_real_21 : decode cX10_real 21 = .ok (.ldc2_w 211, 3) := by decide +kernel
theorem dX10_real_24 : decode cX10_real 24 = .ok (.ddiv, 1) := by decide +kernel
theorem dX10_real_25 : decode cX10_real 25 = .ok (.goto 4, 3) := by decide +kernel
theorem dX10_real_28 : decode cX10_real 28 = .ok (.dconst 0, 1) := by decide +kernel
theorem dX10_real_29 : decode cX10_real 29 = .ok (.dreturn, 1) := by decide +kernel
theorem dX10_refused_0 : decode cX10_refused 0 = .ok (.aload_n 0, 1) := by decide +kernel
theorem dX10_refused_1 : decode cX10_refused 1 = .ok (.getfield 213, 3) := by decide +kernel
theorem dX10_refused_4 : decode cX10_refused 4 = .ok (.ireturn, 1) := by decide +kernel
theorem dX10_count_0 : decode cX10_count 0 = .ok (.iload_n 1, 1) := by decide +kernel
theorem dX10_count_1 : decode cX10_count 1 = .ok (.tableswitch 87 0 5 #[39, 47, 55, 63, 71, 79], 39) := by decide +kernel
theorem dX10_count_40 : decode cX10_count 40 = .ok (.aload_n 0, 1) := by decide +kernel
theorem dX10_count_41 : decode cX10_count 41 = .ok (.getfield 86, 3) := by decide +kernel
theorem dX10_count_44 : decode cX10_count 44 = .ok (.getfield 99, 3) := by decide +kernel
theorem dX10_count_47 : decode cX10_count 47 = .ok (.ireturn, 1) := by decide +kernel
theorem dX10_count_48 : decode cX10_count 48 = .ok (.aload_n 0, 1) := by decide +kernel
theorem dX10_count_49 : decode cX10_count 49 = .ok (.getfield 91, 3) := by decide +kernel
theorem dX10_count_52 : decode cX10_count 52 = .ok (.getfield 117, 3) := by decide +kernel
theorem dX10_count_55 : decode cX10_count 55 = .ok (.ireturn, 1) := by decide +kernel
theorem dX10_count_56 : decode cX10_count 56 = .ok (.aload_n 0, 1) := by decide +kernel
theorem dX10_count_57 : decode cX10_count 57 = .ok (.getfield 18, 3) := by decide +kernel
theorem dX10_count_60 : decode cX10_count 60 = .ok (.getfield 130, 3) := by decide +kernel
theorem dX10_count_63 : decode cX10_count 63 = .ok (.ireturn, 1) := by decide +kernel
theorem dX10_count_64 : decode cX10_count 64 = .ok (.aload_n 0, 1) := by decide +kernel
theorem dX10_count_65 : decode cX10_count 65 = .ok (.getfield 25, 3) := by decide +kernel
theorem dX10_count_68 : decode cX10_count 68 = .ok (.getfield 216, 3) := by decide +kernel
theorem dX10_count_71 : decode cX10_count 71 = .ok (.ireturn, 1) := by decide +kernel
theorem dX10_count_72 : decode cX10_count 72 = .ok (.aload_n 0, 1) := by decide +kernel
theorem dX10_count_73 : decode cX10_count 73 = .ok (.getfield 32, 3) := by decide +kernel
theorem dX10_count_76 : decode cX10_count 76 = .ok (.getfield 192, 3) := by decide +kernel
theorem dX10_count_79 : decode cX10_count 79 = .ok (.ireturn, 1) := by decide +kernel
theorem dX10_count_80 : decode cX10_count 80 = .ok (.aload_n 0, 1) := by decide +kernel
theorem dX10_count_81 : decode cX10_count 81 = .ok (.getfield 78, 3) := by decide +kernel
theorem dX10_count_84 : decode cX10_count 84 = .ok (.getfield 219, 3) := by decide +kernel
theorem dX10_count_87 : decode cX10_count 87 = .ok (.ireturn, 1) := by decide +kernel
theorem dX10_count_88 : decode cX10_count 88 = .ok (.iconst (-1), 1) := by decide +kernel
theorem dX10_count_89 : decode cX10_count 89 = .ok (.ireturn, 1) := by decide +kernel
theorem dX10_refuse_0 : decode cX10_refuse 0 = .ok (.aload_n 0, 1) := by decide +kernel
theorem dX10_refuse_1 : decode cX10_refuse 1 = .ok (.dup, 1) := by decide +kernel
theorem dX10_refuse_2 : decode cX10_refuse 2 = .ok (.getfield 213, 3) := by decide +kernel
theorem dX10_refuse_5 : decode cX10_refuse 5 = .ok (.iconst 1, 1) := by decide +kernel
theorem dX10_refuse_6 : decode cX10_refuse 6 = .ok (.iadd, 1) := by decide +kernel
theorem dX10_refuse_7 : decode cX10_refuse 7 = .ok (.putfield 213, 3) := by decide +kernel
theorem dX10_refuse_10 : decode cX10_refuse 10 = .ok (.iload_n 1, 1) := by decide +kernel
theorem dX10_refuse_11 : decode cX10_refuse 11 = .ok (.ireturn, 1) := by decide +kernel
set_option maxRecDepth 20000 in
theorem ggX10_lacksPart_X1_has : GoodIn wsX10_lacksPart wsX1_has := goodIn_r _ [7, 8, 27, 28, 29, 30] (by decide +kernel) (by decide +kernel)
set_option maxRecDepth 20000 in
theorem gX10_lacksPart_X1_has : GoodIn wsX10_lacksPart (wsV RX10 140 RX1 yX1_has wsX1_has) := goodIn_app (goodIn_of _ (by decide +kernel)) ggX10_lacksPart_X1_has
set_option maxRecDepth 20000 in
theorem ggX10_lacksPart_X3_has : GoodIn wsX10_lacksPart wsX3_has := goodIn_r _ [13, 14, 31, 32, 33, 34] (by decide +kernel) (by decide +kernel)
set_option maxRecDepth 20000 in
theorem gX10_lacksPart_X3_has : GoodIn wsX10_lacksPart (wsV RX10 123 RX3 yX3_has wsX3_has) := goodIn_app (goodIn_of _ (by decide +kernel)) ggX10_lacksPart_X3_has
theorem dX10_lacksPart_0 : decode cX10_lacksPart 0 = .ok (.iload_n 1, 1) := by decide +kernel
theorem dX10_lacksPart_1 : decode cX10_lacksPart 1 = .ok (.tableswitch 170 0 12 #[67, 69, 69, 69, 69, 69, 97, 125, 125, 153, 69, 67, 125], 67) := by decide +kernel
theorem dX10_lacksPart_68 : decode cX10_lacksPart 68 = .ok (.iconst 0, 1) := by decide +kernel
theorem dX10_lacksPart_69 : decode cX10_lacksPart 69 = .ok (.ireturn, 1) := by decide +kernel
theorem dX10_lacksPart_70 : decode cX10_lacksPart 70 = .ok (.aload_n 0, 1) := by decide +kernel
theorem dX10_lacksPart_71 : decode cX10_lacksPart 71 = .ok (.getfield 86, 3) := by decide +kernel
theorem dX10_lacksPart_74 : decode cX10_lacksPart 74 = .ok (.iload_n 2, 1) := by decide +kernel
theorem dX10_lacksPart_75 : decode cX10_lacksPart 75 = .ok (.invokevirtual 140, 3) := by decide +kernel
theorem dX10_lacksPart_78 : decode cX10_lacksPart 78 = .ok (.ifCond .eq 14, 3) := by decide +kernel
theorem dX10_lacksPart_81 : decode cX10_lacksPart 81 = .ok (.aload_n 0, 1) := by decide +kernel
theorem dX10_lacksPart_82 : decode cX10_lacksPart 82 = .ok (.getfield 86, 3) := by decide +kernel
theorem dX10_lacksPart_85 : decode cX10_lacksPart 85 = .ok (.iload_n 3, 1) := by decide +kernel
theorem dX10_lacksPart_86 : decode cX10_lacksPart 86 = .ok (.invokevirtual 140, 3) := by decide +kernel
theorem dX10_lacksPart_89 : decode cX10_lacksPart 89 = .ok (.ifCond .ne 7, 3) := by decide +kernel
theorem dX10_lacksPart_92 : decode cX10_lacksPart 92 = .ok (.iconst 1, 1) := by decide +kernel
theorem dX10_lacksPart_93 : decode cX10_lacksPart 93 = .ok (.goto 4, 3) := by decide +kernel
theorem dX10_lacksPart_96 : decode cX10_lacksPart 96 = .ok (.iconst 0, 1) := by decide +kernel
theorem dX10_lacksPart_97 : decode cX10_lacksPart 97 = .ok (.ireturn, 1) := by decide +kernel
theorem dX10_lacksPart_98 : decode cX10_lacksPart 98 = .ok (.aload_n 0, 1) := by decide +kernel
theorem dX10_lacksPart_99 : decode cX10_lacksPart 99 = .ok (.getfield 91, 3) := by decide +kernel
theorem dX10_lacksPart_102 : decode cX10_lacksPart 102 = .ok (.iload_n 2, 1) := by decide +kernel
theorem dX10_lacksPart_103 : decode cX10_lacksPart 103 = .ok (.invokevirtual 123, 3) := by decide +kernel
theorem dX10_lacksPart_106 : decode cX10_lacksPart 106 = .ok (.ifCond .eq 14, 3) := by decide +kernel
theorem dX10_lacksPart_109 : decode cX10_lacksPart 109 = .ok (.aload_n 0, 1) := by decide +kernel
theorem dX10_lacksPart_110 : decode cX10_lacksPart 110 = .ok (.getfield 91, 3) := by decide +kernel
theorem dX10_lacksPart_113 : decode cX10_lacksPart 113 = .ok (.iload_n 3, 1) := by decide +kernel
theorem dX10_lacksPart_114 : decode cX10_lacksPart 114 = .ok (.invokevirtual 123, 3) := by decide +kernel
theorem dX10_lacksPart_117 : decode cX10_lacksPart 117 = .ok (.ifCond .ne 7, 3) := by decide +kernel
theorem dX10_lacksPart_120 : decode cX10_lacksPart 120 = .ok (.iconst 1, 1) := by decide +kernel
theorem dX10_lacksPart_121 : decode cX10_lacksPart 121 = .ok (.goto 4, 3) := by decide +kernel
theorem dX10_lacksPart_124 : decode cX10_lacksPart 124 = .ok (.iconst 0, 1) := by decide +kernel
theorem dX10_lacksPart_125 : decode cX10_lacksPart 125 = .ok (.ireturn, 1) := by decide +kernel
theorem dX10_lacksPart_126 : decode cX10_lacksPart 126 = .ok (.aload_n 0, 1) := by decide +kernel
theorem dX10_lacksPart_127 : decode cX10_lacksPart 127 = .ok (.getfield 86, 3) := by decide +kernel
theorem dX10_lacksPart_130 : decode cX10_lacksPart 130 = .ok (.iload_n 2, 1) := by decide +kernel
theorem dX10_lacksPart_131 : decode cX10_lacksPart 131 = .ok (.invokevirtual 140, 3) := by decide +kernel
theorem dX10_lacksPart_134 : decode cX10_lacksPart 134 = .ok (.ifCond .eq 14, 3) := by decide +kernel
theorem dX10_lacksPart_137 : decode cX10_lacksPart 137 = .ok (.aload_n 0, 1) := by decide +kernel
theorem dX10_lacksPart_138 : decode cX10_lacksPart 138 = .ok (.getfield 91, 3) := by decide +kernel
theorem dX10_lacksPart_141 : decode cX10_lacksPart 141 = .ok (.iload_n 3, 1) := by decide +kernel
theorem dX10_lacksPart_142 : decode cX10_lacksPart 142 = .ok (.invokevirtual 123, 3) := by decide +kernel
theorem dX10_lacksPart_145 : decode cX10_lacksPart 145 = .ok (.ifCond .ne 7, 3) := by decide +kernel
theorem dX10_lacksPart_148 : decode cX10_lacksPart 148 = .ok (.iconst 1, 1) := by decide +kernel
theorem dX10_lacksPart_149 : decode cX10_lacksPart 149 = .ok (.goto 4, 3) := by decide +kernel
theorem dX10_lacksPart_152 : decode cX10_lacksPart 152 = .ok (.iconst 0, 1) := by decide +kernel
theorem dX10_lacksPart_153 : decode cX10_lacksPart 153 = .ok (.ireturn, 1) := by decide +kernel
theorem dX10_lacksPart_154 : decode cX10_lacksPart 154 = .ok (.aload_n 0, 1) := by decide +kernel
theorem dX10_lacksPart_155 : decode cX10_lacksPart 155 = .ok (.getfield 86, 3) := by decide +kernel
theorem dX10_lacksPart_158 : decode cX10_lacksPart 158 = .ok (.iload_n 2, 1) := by decide +kernel
theorem dX10_lacksPart_159 : decode cX10_lacksPart 159 = .ok (.invokevirtual 140, 3) := by decide +kernel
theorem dX10_lacksPart_162 : decode cX10_lacksPart 162 = .ok (.ifCond .ne 7, 3) := by decide +kernel
theorem dX10_lacksPart_165 : decode cX10_lacksPart 165 = .ok (.iconst 1, 1) := by decide +kernel
theorem dX10_lacksPart_166 : decode cX10_lacksPart 166 = .ok (.goto 4, 3) := by decide +kernel
theorem dX10_lacksPart_169 : decode cX10_lacksPart 169 = .ok (.iconst 0, 1) := by decide +kernel
theorem dX10_lacksPart_170 : decode cX10_lacksPart 170 = .ok (.ireturn, 1) := by decide +kernel
theorem dX10_lacksPart_171 : decode cX10_lacksPart 171 = .ok (.iconst 1, 1) := by decide +kernel
theorem dX10_lacksPart_172 : decode cX10_lacksPart 172 = .ok (.ireturn, 1) := by decide +kernel
theorem dX10_isOpenUnit_0 : decode cX10_isOpenUnit 0 = .ok (.iload_n 0, 1) := by decide +kernel
theorem dX10_isOpenUnit_1 : decode cX10_isOpenUnit 1 = .ok (.iconst 1, 1) := by decide +kernel
theorem dX10_isOpenUnit_2 : decode cX10_isOpenUnit 2 = .ok (.if_icmp .lt 13, 3) := by decide +kernel
theorem dX10_isOpenUnit_5 : decode cX10_isOpenUnit 5 = .ok (.iload_n 0, 1) := by decide +kernel
theorem dX10_isOpenUnit_6 : decode cX10_isOpenUnit 6 = .ok (.bipush 8, 2) := by decide +kernel
theorem dX10_isOpenUnit_8 : decode cX10_isOpenUnit 8 = .ok (.if_icmp .gt 7, 3) := by decide +kernel
theorem dX10_isOpenUnit_11 : decode cX10_isOpenUnit 11 = .ok (.iconst 1, 1) := by decide +kernel
theorem dX10_isOpenUnit_12 : decode cX10_isOpenUnit 12 = .ok (.goto 4, 3) := by decide +kernel
theorem dX10_isOpenUnit_15 : decode cX10_isOpenUnit 15 = .ok (.iconst 0, 1) := by decide +kernel
theorem dX10_isOpenUnit_16 : decode cX10_isOpenUnit 16 = .ok (.ireturn, 1) := by decide +kernel
set_option maxRecDepth 20000 in
theorem ggX10_mayBeDone_X10_isPlace : GoodIn wsX10_mayBeDone wsX10_isPlace := goodIn_r _ [8, 2, 9, 10] (by decide +kernel) (by decide +kernel)
set_option maxRecDepth 20000 in
theorem gX10_mayBeDone_X10_isPlace : GoodIn wsX10_mayBeDone (va_wsS RX10 113 yX10_isPlace wsX10_isPlace) := goodIn_app (goodIn_of _ (by decide +kernel)) ggX10_mayBeDone_X10_isPlace
theorem dX10_mayBeDone_0 : decode cX10_mayBeDone 0 = .ok (.iload_n 0, 1) := by decide +kernel
theorem dX10_mayBeDone_1 : decode cX10_mayBeDone 1 = .ok (.tableswitch 124 0 4 #[35, 35, 55, 75, 95], 35) := by decide +kernel
theorem dX10_mayBeDone_36 : decode cX10_mayBeDone 36 = .ok (.lload_n 1, 1) := by decide +kernel
theorem dX10_mayBeDone_37 : decode cX10_mayBeDone 37 = .ok (.lconst 0, 1) := by decide +kernel
theorem dX10_mayBeDone_38 : decode cX10_mayBeDone 38 = .ok (.lcmp, 1) := by decide +kernel
theorem dX10_mayBeDone_39 : decode cX10_mayBeDone 39 = .ok (.ifCond .lt 15, 3) := by decide +kernel
theorem dX10_mayBeDone_42 : decode cX10_mayBeDone 42 = .ok (.lload_n 1, 1) := by decide +kernel
theorem dX10_mayBeDone_43 : decode cX10_mayBeDone 43 = .ok (.ldc2_w 222, 3) := by decide +kernel
theorem dX10_mayBeDone_46 : decode cX10_mayBeDone 46 = .ok (.lcmp, 1) := by decide +kernel
theorem dX10_mayBeDone_47 : decode cX10_mayBeDone 47 = .ok (.ifCond .ge 7, 3) := by decide +kernel
theorem dX10_mayBeDone_50 : decode cX10_mayBeDone 50 = .ok (.iconst 1, 1) := by decide +kernel
theorem dX10_mayBeDone_51 : decode cX10_mayBeDone 51 = .ok (.goto 4, 3) := by decide +kernel
theorem dX10_mayBeDone_54 : decode cX10_mayBeDone 54 = .ok (.iconst 0, 1) := by decide +kernel
theorem dX10_mayBeDone_55 : decode cX10_mayBeDone 55 = .ok (.ireturn, 1) := by decide +kernel
theorem dX10_mayBeDone_56 : decode cX10_mayBeDone 56 = .ok (.lload_n 1, 1) := by decide +kernel
theorem dX10_mayBeDone_57 : decode cX10_mayBeDone 57 = .ok (.lconst 0, 1) := by decide +kernel
theorem dX10_mayBeDone_58 : decode cX10_mayBeDone 58 = .ok (.lcmp, 1) := by decide +kernel
theorem dX10_mayBeDone_59 : decode cX10_mayBeDone 59 = .ok (.ifCond .lt 15, 3) := by decide +kernel
theorem dX10_mayBeDone_62 : decode cX10_mayBeDone 62 = .ok (.lload_n 1, 1) := by decide +kernel
theorem dX10_mayBeDone_63 : decode cX10_mayBeDone 63 = .ok (.ldc2_w 224, 3) := by decide +kernel
theorem dX10_mayBeDone_66 : decode cX10_mayBeDone 66 = .ok (.lcmp, 1) := by decide +kernel
theorem dX10_mayBeDone_67 : decode cX10_mayBeDone 67 = .ok (.ifCond .gt 7, 3) := by decide +kernel
theorem dX10_mayBeDone_70 : decode cX10_mayBeDone 70 = .ok (.iconst 1, 1) := by decide +kernel
theorem dX10_mayBeDone_71 : decode cX10_mayBeDone 71 = .ok (.goto 4, 3) := by decide +kernel
theorem dX10_mayBeDone_74 : decode cX10_mayBeDone 74 = .ok (.iconst 0, 1) := by decide +kernel
theorem dX10_mayBeDone_75 : decode cX10_mayBeDone 75 = .ok (.ireturn, 1) := by decide +kernel
theorem dX10_mayBeDone_76 : decode cX10_mayBeDone 76 = .ok (.lload_n 1, 1) := by decide +kernel
theorem dX10_mayBeDone_77 : decode cX10_mayBeDone 77 = .ok (.lconst 1, 1) := by decide +kernel
theorem dX10_mayBeDone_78 : decode cX10_mayBeDone 78 = .ok (.lcmp, 1) := by decide +kernel
theorem dX10_mayBeDone_79 : decode cX10_mayBeDone 79 = .ok (.ifCond .lt 15, 3) := by decide +kernel
theorem dX10_mayBeDone_82 : decode cX10_mayBeDone 82 = .ok (.lload_n 1, 1) := by decide +kernel
theorem dX10_mayBeDone_83 : decode cX10_mayBeDone 83 = .ok (.ldc2_w 224, 3) := by decide +kernel
theorem dX10_mayBeDone_86 : decode cX10_mayBeDone 86 = .ok (.lcmp, 1) := by decide +kernel
theorem dX10_mayBeDone_87 : decode cX10_mayBeDone 87 = .ok (.ifCond .gt 7, 3) := by decide +kernel
theorem dX10_mayBeDone_90 : decode cX10_mayBeDone 90 = .ok (.iconst 1, 1) := by decide +kernel
theorem dX10_mayBeDone_91 : decode cX10_mayBeDone 91 = .ok (.goto 4, 3) := by decide +kernel
theorem dX10_mayBeDone_94 : decode cX10_mayBeDone 94 = .ok (.iconst 0, 1) := by decide +kernel
theorem dX10_mayBeDone_95 : decode cX10_mayBeDone 95 = .ok (.ireturn, 1) := by decide +kernel
theorem dX10_mayBeDone_96 : decode cX10_mayBeDone 96 = .ok (.lload_n 1, 1) := by decide +kernel
theorem dX10_mayBeDone_97 : decode cX10_mayBeDone 97 = .ok (.invokestatic 113, 3) := by decide +kernel
theorem dX10_mayBeDone_100 : decode cX10_mayBeDone 100 = .ok (.ifCond .eq 23, 3) := by decide +kernel
theorem dX10_mayBeDone_103 : decode cX10_mayBeDone 103 = .ok (.lload_n 3, 1) := by decide +kernel
theorem dX10_mayBeDone_104 : decode cX10_mayBeDone 104 = .ok (.ldc2_w 226, 3) := by decide +kernel
theorem dX10_mayBeDone_107 : decode cX10_mayBeDone 107 = .ok (.lcmp, 1) := by decide +kernel
theorem dX10_mayBeDone_108 : decode cX10_mayBeDone 108 = .ok (.ifCond .lt 15, 3) := by decide +kernel
theorem dX10_mayBeDone_111 : decode cX10_mayBeDone 111 = .ok (.lload_n 3, 1) := by decide +kernel
theorem dX10_mayBeDone_112 : decode cX10_mayBeDone 112 = .ok (.ldc2_w 228, 3) := by decide +kernel
theorem dX10_mayBeDone_115 : decode cX10_mayBeDone 115 = .ok (.lcmp, 1) := by decide +kernel
theorem dX10_mayBeDone_116 : decode cX10_mayBeDone 116 = .ok (.ifCond .gt 7, 3) := by decide +kernel
theorem dX10_mayBeDone_119 : decode cX10_mayBeDone 119 = .ok (.iconst 1, 1) := by decide +kernel
theorem dX10_mayBeDone_120 : decode cX10_mayBeDone 120 = .ok (.goto 4, 3) := by decide +kernel
theorem dX10_mayBeDone_123 : decode cX10_mayBeDone 123 = .ok (.iconst 0, 1) := by decide +kernel
theorem dX10_mayBeDone_124 : decode cX10_mayBeDone 124 = .ok (.ireturn, 1) := by decide +kernel
theorem dX10_mayBeDone_125 : decode cX10_mayBeDone 125 = .ok (.iconst 0, 1) := by decide +kernel
theorem dX10_mayBeDone_126 : decode cX10_mayBeDone 126 = .ok (.ireturn, 1) := by decide +kernel
theorem dX10_isPlace_0 : decode cX10_isPlace 0 = .ok (.lload_n 0, 1) := by decide +kernel
theorem dX10_isPlace_1 : decode cX10_isPlace 1 = .ok (.ldc2_w 224, 3) := by decide +kernel
theorem dX10_isPlace_4 : decode cX10_isPlace 4 = .ok (.lrem, 1) := by decide +kernel
theorem dX10_isPlace_5 : decode cX10_isPlace 5 = .ok (.lstore_n 2, 1) := by decide +kernel
theorem dX10_isPlace_6 : decode cX10_isPlace 6 = .ok (.lload_n 0, 1) := by decide +kernel
theorem dX10_isPlace_7 : decode cX10_isPlace 7 = .ok (.ldc2_w 224, 3) := by decide +kernel
theorem dX10_isPlace_10 : decode cX10_isPlace 10 = .ok (.ldiv, 1) := by decide +kernel
theorem dX10_isPlace_11 : decode cX10_isPlace 11 = .ok (.lstore 4, 2) := by decide +kernel
theorem dX10_isPlace_13 : decode cX10_isPlace 13 = .ok (.lload 4, 2) := by decide +kernel
theorem dX10_isPlace_15 : decode cX10_isPlace 15 = .ok (.lconst 1, 1) := by decide +kernel
theorem dX10_isPlace_16 : decode cX10_isPlace 16 = .ok (.lcmp, 1) := by decide +kernel
theorem dX10_isPlace_17 : decode cX10_isPlace 17 = .ok (.ifCond .lt 30, 3) := by decide +kernel
theorem dX10_isPlace_20 : decode cX10_isPlace 20 = .ok (.lload 4, 2) := by decide +kernel
theorem dX10_isPlace_22 : decode cX10_isPlace 22 = .ok (.ldc2_w 230, 3) := by decide +kernel
theorem dX10_isPlace_25 : decode cX10_isPlace 25 = .ok (.lcmp, 1) := by decide +kernel
theorem dX10_isPlace_26 : decode cX10_isPlace 26 = .ok (.ifCond .gt 21, 3) := by decide +kernel
theorem dX10_isPlace_29 : decode cX10_isPlace 29 = .ok (.lload_n 2, 1) := by decide +kernel
theorem dX10_isPlace_30 : decode cX10_isPlace 30 = .ok (.lconst 1, 1) := by decide +kernel
theorem dX10_isPlace_31 : decode cX10_isPlace 31 = .ok (.lcmp, 1) := by decide +kernel
theorem dX10_isPlace_32 : decode cX10_isPlace 32 = .ok (.ifCond .lt 15, 3) := by decide +kernel
theorem dX10_isPlace_35 : decode cX10_isPlace 35 = .ok (.lload_n 2, 1) := by decide +kernel
theorem dX10_isPlace_36 : decode cX10_isPlace 36 = .ok (.ldc2_w 232, 3) := by decide +kernel
theorem dX10_isPlace_39 : decode cX10_isPlace 39 = .ok (.lcmp, 1) := by decide +kernel
theorem dX10_isPlace_40 : decode cX10_isPlace 40 = .ok (.ifCond .gt 7, 3) := by decide +kernel
theorem dX10_isPlace_43 : decode cX10_isPlace 43 = .ok (.iconst 1, 1) := by decide +kernel
theorem dX10_isPlace_44 : decode cX10_isPlace 44 = .ok (.goto 4, 3) := by decide +kernel
theorem dX10_isPlace_47 : decode cX10_isPlace 47 = .ok (.iconst 0, 1) := by decide +kernel
theorem dX10_isPlace_48 : decode cX10_isPlace 48 = .ok (.ireturn, 1) := by decide +kernel
theorem dX10_placeIndex_0 : decode cX10_placeIndex 0 = .ok (.iload_n 0, 1) := by decide +kernel
theorem dX10_placeIndex_1 : decode cX10_placeIndex 1 = .ok (.bipush 100, 2) := by decide +kernel
theorem dX10_placeIndex_3 : decode cX10_placeIndex 3 = .ok (.idiv, 1) := by decide +kernel
theorem dX10_placeIndex_4 : decode cX10_placeIndex 4 = .ok (.iconst 1, 1) := by decide +kernel
theorem dX10_placeIndex_5 : decode cX10_placeIndex 5 = .ok (.isub, 1) := by decide +kernel
theorem dX10_placeIndex_6 : decode cX10_placeIndex 6 = .ok (.bipush 80, 2) := by decide +kernel
theorem dX10_placeIndex_8 : decode cX10_placeIndex 8 = .ok (.imul, 1) := by decide +kernel
theorem dX10_placeIndex_9 : decode cX10_placeIndex 9 = .ok (.iload_n 0, 1) := by decide +kernel
theorem dX10_placeIndex_10 : decode cX10_placeIndex 10 = .ok (.bipush 100, 2) := by decide +kernel
theorem dX10_placeIndex_12 : decode cX10_placeIndex 12 = .ok (.irem, 1) := by decide +kernel
theorem dX10_placeIndex_13 : decode cX10_placeIndex 13 = .ok (.iadd, 1) := by decide +kernel
theorem dX10_placeIndex_14 : decode cX10_placeIndex 14 = .ok (.iconst 1, 1) := by decide +kernel
theorem dX10_placeIndex_15 : decode cX10_placeIndex 15 = .ok (.isub, 1) := by decide +kernel
theorem dX10_placeIndex_16 : decode cX10_placeIndex 16 = .ok (.ireturn, 1) := by decide +kernel
theorem dX10_lowest_0 : decode cX10_lowest 0 = .ok (.lload_n 0, 1) := by decide +kernel
theorem dX10_lowest_1 : decode cX10_lowest 1 = .ok (.l2i, 1) := by decide +kernel
theorem dX10_lowest_2 : decode cX10_lowest 2 = .ok (.ireturn, 1) := by decide +kernel
theorem dX10_highest_0 : decode cX10_highest 0 = .ok (.lload_n 0, 1) := by decide +kernel
theorem dX10_highest_1 : decode cX10_highest 1 = .ok (.bipush 32, 2) := by decide +kernel
theorem dX10_highest_3 : decode cX10_highest 3 = .ok (.lshr, 1) := by decide +kernel
theorem dX10_highest_4 : decode cX10_highest 4 = .ok (.l2i, 1) := by decide +kernel
theorem dX10_highest_5 : decode cX10_highest 5 = .ok (.ireturn, 1) := by decide +kernel
set_option maxRecDepth 20000 in
theorem ggX10_doAll_X0_kindOf : GoodIn wsX10_doAll wsX0_kindOf := goodIn_r _ [8, 9, 10, 81, 82, 83] (by decide +kernel) (by decide +kernel)
set_option maxRecDepth 20000 in
theorem gX10_doAll_X0_kindOf : GoodIn wsX10_doAll (wsV RX10 234 RX0 yX0_kindOf wsX0_kindOf) := goodIn_app (goodIn_of _ (by decide +kernel)) ggX10_doAll_X0_kindOf
set_option maxRecDepth 20000 in
theorem ggX10_doAll_X0_targetOf : GoodIn wsX10_doAll wsX0_targetOf := goodIn_r _ [14, 9, 10, 81, 82, 83] (by decide +kernel) (by decide +kernel)
set_option maxRecDepth 20000 in
theorem gX10_doAll_X0_targetOf : GoodIn wsX10_doAll (wsV RX10 237 RX0 yX0_targetOf wsX0_targetOf) := goodIn_app (goodIn_of _ (by decide +kernel)) ggX10_doAll_X0_targetOf
set_option maxRecDepth 20000 in
theorem ggX10_doAll_X10_doOne : GoodIn wsX10_doAll wsX10_doOne := goodIn_r _ [19, 20, 21, 22, 23, 24, 25, 26, 27, 28, 29, 30, 31, 32, 33, 34, 35, 36, 37, 38, 39, 40, 41, 42, 43, 44, 45, 46, 47, 48, 49, 50, 51, 52, 53, 54, 55, 56, 57, 58, 59, 60, 61, 62, 63, 64, 65, 66, 67, 68, 69, 70, 71, 72, 73, 18, 74, 84, 85, 86, 87, 88, 89, 90, 91, 92, 93, 94, 95, 96, 97, 98, 99, 100, 101, 102, 103, 104, 105] (by decide +kernel) (by decide +kernel)
set_option maxRecDepth 20000 in
theorem gX10_doAll_X10_doOne : GoodIn wsX10_doAll (wsV RX10 241 RX10 yX10_doOne wsX10_doOne) := goodIn_app (goodIn_of _ (by decide +kernel)) ggX10_doAll_X10_doOne
set_option maxRecDepth 20000 in
theorem ggX10_doAll_X0_add : GoodIn wsX10_doAll wsX0_add := goodIn_r _ [78, 79, 9, 10, 80, 81, 82, 83] (by decide +kernel) (by decide +kernel)
set_option maxRecDepth 20000 in
theorem gX10_doAll_X0_add : GoodIn wsX10_doAll (wsV RX10 178 RX0 yX0_add wsX0_add) := goodIn_app (goodIn_of _ (by decide +kernel)) ggX10_doAll_X0_add
theorem dX10_doAll_0 : decode cX10_doAll 0 = .ok (.iconst 0, 1) := by decide +kernel
theorem dX10_doAll_1 : decode cX10_doAll 1 = .ok (.istore_n 2, 1) := by decide +kernel
theorem dX10_doAll_2 : decode cX10_doAll 2 = .ok (.iload_n 2, 1) := by decide +kernel
theorem dX10_doAll_3 : decode cX10_doAll 3 = .ok (.aload_n 1, 1) := by decide +kernel
theorem dX10_doAll_4 : decode cX10_doAll 4 = .ok (.getfield 130, 3) := by decide +kernel
theorem dX10_doAll_7 : decode cX10_doAll 7 = .ok (.if_icmp .ge 53, 3) := by decide +kernel
theorem dX10_doAll_10 : decode cX10_doAll 10 = .ok (.aload_n 0, 1) := by decide +kernel
theorem dX10_doAll_11 : decode cX10_doAll 11 = .ok (.aload_n 1, 1) := by decide +kernel
theorem dX10_doAll_12 : decode cX10_doAll 12 = .ok (.iload_n 2, 1) := by decide +kernel
theorem dX10_doAll_13 : decode cX10_doAll 13 = .ok (.invokevirtual 234, 3) := by decide +kernel
theorem dX10_doAll_16 : decode cX10_doAll 16 = .ok (.aload_n 1, 1) := by decide +kernel
theorem dX10_doAll_17 : decode cX10_doAll 17 = .ok (.iload_n 2, 1) := by decide +kernel
theorem dX10_doAll_18 : decode cX10_doAll 18 = .ok (.invokevirtual 237, 3) := by decide +kernel
theorem dX10_doAll_21 : decode cX10_doAll 21 = .ok (.aload_n 1, 1) := by decide +kernel
theorem dX10_doAll_22 : decode cX10_doAll 22 = .ok (.getfield 240, 3) := by decide +kernel
theorem dX10_doAll_25 : decode cX10_doAll 25 = .ok (.iload_n 2, 1) := by decide +kernel
theorem dX10_doAll_26 : decode cX10_doAll 26 = .ok (.laload, 1) := by decide +kernel
theorem dX10_doAll_27 : decode cX10_doAll 27 = .ok (.invokevirtual 241, 3) := by decide +kernel
theorem dX10_doAll_30 : decode cX10_doAll 30 = .ok (.aload_n 0, 1) := by decide +kernel
theorem dX10_doAll_31 : decode cX10_doAll 31 = .ok (.getfield 18, 3) := by decide +kernel
theorem dX10_doAll_34 : decode cX10_doAll 34 = .ok (.aload_n 1, 1) := by decide +kernel
theorem dX10_doAll_35 : decode cX10_doAll 35 = .ok (.iload_n 2, 1) := by decide +kernel
theorem dX10_doAll_36 : decode cX10_doAll 36 = .ok (.invokevirtual 234, 3) := by decide +kernel
theorem dX10_doAll_39 : decode cX10_doAll 39 = .ok (.aload_n 1, 1) := by decide +kernel
theorem dX10_doAll_40 : decode cX10_doAll 40 = .ok (.iload_n 2, 1) := by decide +kernel
theorem dX10_doAll_41 : decode cX10_doAll 41 = .ok (.invokevirtual 237, 3) := by decide +kernel
theorem dX10_doAll_44 : decode cX10_doAll 44 = .ok (.aload_n 1, 1) := by decide +kernel
theorem dX10_doAll_45 : decode cX10_doAll 45 = .ok (.getfield 240, 3) := by decide +kernel
theorem dX10_doAll_48 : decode cX10_doAll 48 = .ok (.iload_n 2, 1) := by decide +kernel
theorem dX10_doAll_49 : decode cX10_doAll 49 = .ok (.laload, 1) := by decide +kernel
theorem dX10_doAll_50 : decode cX10_doAll 50 = .ok (.invokevirtual 178, 3) := by decide +kernel
theorem dX10_doAll_53 : decode cX10_doAll 53 = .ok (.pop, 1) := by decide +kernel
theorem dX10_doAll_54 : decode cX10_doAll 54 = .ok (.iinc 2 1, 3) := by decide +kernel
theorem dX10_doAll_57 : decode cX10_doAll 57 = .ok (.goto (-55), 3) := by decide +kernel
theorem dX10_doAll_60 : decode cX10_doAll 60 = .ok (.return_, 1) := by decide +kernel
set_option maxRecDepth 20000 in
theorem ggX10_doOne_X2_put : GoodIn wsX10_doOne wsX2_put := goodIn_r _ [8, 9, 10, 11, 12, 13, 14, 15, 16, 17, 18, 7, 19, 69, 70, 71] (by decide +kernel) (by decide +kernel)
set_option maxRecDepth 20000 in
theorem gX10_doOne_X2_put : GoodIn wsX10_doOne (wsV RX10 245 RX2 yX2_put wsX2_put) := goodIn_app (goodIn_of _ (by decide +kernel)) ggX10_doOne_X2_put
set_option maxRecDepth 20000 in
theorem ggX10_doOne_X2_drop : GoodIn wsX10_doOne wsX2_drop := goodIn_r _ [23, 9, 10, 12, 13, 14, 15, 11, 16, 17, 18, 7, 19, 69, 70, 71] (by decide +kernel) (by decide +kernel)
set_option maxRecDepth 20000 in
theorem gX10_doOne_X2_drop : GoodIn wsX10_doOne (wsV RX10 249 RX2 yX2_drop wsX2_drop) := goodIn_app (goodIn_of _ (by decide +kernel)) ggX10_doOne_X2_drop
set_option maxRecDepth 20000 in
theorem ggX10_doOne_X8_insert : GoodIn wsX10_doOne wsX8_insert := goodIn_r _ [28, 29, 30, 31, 32, 33, 34, 35, 13, 14, 15, 36, 37, 38, 27, 39, 40, 41, 42, 43, 72, 73, 74, 75, 76, 77] (by decide +kernel) (by decide +kernel)
set_option maxRecDepth 20000 in
theorem gX10_doOne_X8_insert : GoodIn wsX10_doOne (wsV RX10 252 RX8 yX8_insert wsX8_insert) := goodIn_app (goodIn_of _ (by decide +kernel)) ggX10_doOne_X8_insert
set_option maxRecDepth 20000 in
theorem ggX10_doOne_X8_delete : GoodIn wsX10_doOne wsX8_delete := goodIn_r _ [47, 34, 29, 35, 13, 14, 15, 36, 37, 38, 27, 39, 40, 41, 42, 43, 32, 72, 73, 74, 75, 76, 77] (by decide +kernel) (by decide +kernel)
set_option maxRecDepth 20000 in
theorem gX10_doOne_X8_delete : GoodIn wsX10_doOne (wsV RX10 255 RX8 yX8_delete wsX8_delete) := goodIn_app (goodIn_of _ (by decide +kernel)) ggX10_doOne_X8_delete
set_option maxRecDepth 20000 in
theorem ggX10_doOne_X4_put : GoodIn wsX10_doOne wsX4_put := goodIn_r _ [52, 53, 54, 55, 56, 78] (by decide +kernel) (by decide +kernel)
set_option maxRecDepth 20000 in
theorem gX10_doOne_X4_put : GoodIn wsX10_doOne (wsV RX10 258 RX4 yX4_put wsX4_put) := goodIn_app (goodIn_of _ (by decide +kernel)) ggX10_doOne_X4_put
theorem dX10_doOne_0 : decode cX10_doOne 0 = .ok (.iload_n 1, 1) := by decide +kernel
theorem dX10_doOne_1 : decode cX10_doOne 1 = .ok (.tableswitch 93 0 4 #[35, 47, 58, 70, 81], 35) := by decide +kernel
theorem dX10_doOne_36 : decode cX10_doOne 36 = .ok (.aload_n 0, 1) := by decide +kernel
theorem dX10_doOne_37 : decode cX10_doOne 37 = .ok (.getfield 25, 3) := by decide +kernel
theorem dX10_doOne_40 : decode cX10_doOne 40 = .ok (.iload_n 2, 1) := by decide +kernel
theorem dX10_doOne_41 : decode cX10_doOne 41 = .ok (.lload_n 3, 1) := by decide +kernel
theorem dX10_doOne_42 : decode cX10_doOne 42 = .ok (.invokevirtual 245, 3) := by decide +kernel
theorem dX10_doOne_45 : decode cX10_doOne 45 = .ok (.goto 49, 3) := by decide +kernel
theorem dX10_doOne_48 : decode cX10_doOne 48 = .ok (.aload_n 0, 1) := by decide +kernel
theorem dX10_doOne_49 : decode cX10_doOne 49 = .ok (.getfield 25, 3) := by decide +kernel
theorem dX10_doOne_52 : decode cX10_doOne 52 = .ok (.iload_n 2, 1) := by decide +kernel
theorem dX10_doOne_53 : decode cX10_doOne 53 = .ok (.invokevirtual 249, 3) := by decide +kernel
theorem dX10_doOne_56 : decode cX10_doOne 56 = .ok (.goto 38, 3) := by decide +kernel
theorem dX10_doOne_59 : decode cX10_doOne 59 = .ok (.aload_n 0, 1) := by decide +kernel
theorem dX10_doOne_60 : decode cX10_doOne 60 = .ok (.getfield 32, 3) := by decide +kernel
theorem dX10_doOne_63 : decode cX10_doOne 63 = .ok (.iload_n 2, 1) := by decide +kernel
theorem dX10_doOne_64 : decode cX10_doOne 64 = .ok (.lload_n 3, 1) := by decide +kernel
theorem dX10_doOne_65 : decode cX10_doOne 65 = .ok (.invokevirtual 252, 3) := by decide +kernel
theorem dX10_doOne_68 : decode cX10_doOne 68 = .ok (.goto 26, 3) := by decide +kernel
theorem dX10_doOne_71 : decode cX10_doOne 71 = .ok (.aload_n 0, 1) := by decide +kernel
theorem dX10_doOne_72 : decode cX10_doOne 72 = .ok (.getfield 32, 3) := by decide +kernel
theorem dX10_doOne_75 : decode cX10_doOne 75 = .ok (.iload_n 2, 1) := by decide +kernel
theorem dX10_doOne_76 : decode cX10_doOne 76 = .ok (.invokevirtual 255, 3) := by decide +kernel
theorem dX10_doOne_79 : decode cX10_doOne 79 = .ok (.goto 15, 3) := by decide +kernel
theorem dX10_doOne_82 : decode cX10_doOne 82 = .ok (.aload_n 0, 1) := by decide +kernel
theorem dX10_doOne_83 : decode cX10_doOne 83 = .ok (.getfield 39, 3) := by decide +kernel
theorem dX10_doOne_86 : decode cX10_doOne 86 = .ok (.iload_n 2, 1) := by decide +kernel
theorem dX10_doOne_87 : decode cX10_doOne 87 = .ok (.lload_n 3, 1) := by decide +kernel
theorem dX10_doOne_88 : decode cX10_doOne 88 = .ok (.invokevirtual 258, 3) := by decide +kernel
theorem dX10_doOne_91 : decode cX10_doOne 91 = .ok (.goto 3, 3) := by decide +kernel
theorem dX10_doOne_94 : decode cX10_doOne 94 = .ok (.return_, 1) := by decide +kernel
