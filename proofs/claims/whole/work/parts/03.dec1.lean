theorem dX0_init_0 : decode cX0_init 0 = .ok (.aload_n 0, 1) := by decide +kernel
theorem dX0_init_1 : decode cX0_init 1 = .ok (.invokespecial 3, 3) := by decide +kernel
theorem dX0_init_4 : decode cX0_init 4 = .ok (.iconst 0, 1) := by decide +kernel
theorem dX0_init_5 : decode cX0_init 5 = .ok (.iload_n 1, 1) := by decide +kernel
theorem dX0_init_6 : decode cX0_init 6 = .ok (.invokestatic 9, 3) := by decide +kernel
theorem dX0_init_9 : decode cX0_init 9 = .ok (.istore_n 2, 1) := by decide +kernel
theorem dX0_init_10 : decode cX0_init 10 = .ok (.aload_n 0, 1) := by decide +kernel
theorem dX0_init_11 : decode cX0_init 11 = .ok (.iload_n 2, 1) := by decide +kernel
theorem dX0_init_12 : decode cX0_init 12 = .ok (.newarray .int, 2) := by decide +kernel
theorem dX0_init_14 : decode cX0_init 14 = .ok (.putfield 15, 3) := by decide +kernel
theorem dX0_init_17 : decode cX0_init 17 = .ok (.aload_n 0, 1) := by decide +kernel
theorem dX0_init_18 : decode cX0_init 18 = .ok (.iload_n 2, 1) := by decide +kernel
theorem dX0_init_19 : decode cX0_init 19 = .ok (.newarray .long, 2) := by decide +kernel
theorem dX0_init_21 : decode cX0_init 21 = .ok (.putfield 21, 3) := by decide +kernel
theorem dX0_init_24 : decode cX0_init 24 = .ok (.return_, 1) := by decide +kernel
theorem dX0_hasRoomFor_0 : decode cX0_hasRoomFor 0 = .ok (.iload_n 1, 1) := by decide +kernel
theorem dX0_hasRoomFor_1 : decode cX0_hasRoomFor 1 = .ok (.aload_n 0, 1) := by decide +kernel
theorem dX0_hasRoomFor_2 : decode cX0_hasRoomFor 2 = .ok (.getfield 15, 3) := by decide +kernel
theorem dX0_hasRoomFor_5 : decode cX0_hasRoomFor 5 = .ok (.arraylength, 1) := by decide +kernel
theorem dX0_hasRoomFor_6 : decode cX0_hasRoomFor 6 = .ok (.aload_n 0, 1) := by decide +kernel
theorem dX0_hasRoomFor_7 : decode cX0_hasRoomFor 7 = .ok (.getfield 25, 3) := by decide +kernel
theorem dX0_hasRoomFor_10 : decode cX0_hasRoomFor 10 = .ok (.isub, 1) := by decide +kernel
theorem dX0_hasRoomFor_11 : decode cX0_hasRoomFor 11 = .ok (.if_icmp .gt 7, 3) := by decide +kernel
theorem dX0_hasRoomFor_14 : decode cX0_hasRoomFor 14 = .ok (.iconst 1, 1) := by decide +kernel
theorem dX0_hasRoomFor_15 : decode cX0_hasRoomFor 15 = .ok (.goto 4, 3) := by decide +kernel
theorem dX0_hasRoomFor_18 : decode cX0_hasRoomFor 18 = .ok (.iconst 0, 1) := by decide +kernel
theorem dX0_hasRoomFor_19 : decode cX0_hasRoomFor 19 = .ok (.ireturn, 1) := by decide +kernel
theorem dX0_add_0 : decode cX0_add 0 = .ok (.aload_n 0, 1) := by decide +kernel
theorem dX0_add_1 : decode cX0_add 1 = .ok (.getfield 25, 3) := by decide +kernel
theorem dX0_add_4 : decode cX0_add 4 = .ok (.aload_n 0, 1) := by decide +kernel
theorem dX0_add_5 : decode cX0_add 5 = .ok (.getfield 15, 3) := by decide +kernel
theorem dX0_add_8 : decode cX0_add 8 = .ok (.arraylength, 1) := by decide +kernel
theorem dX0_add_9 : decode cX0_add 9 = .ok (.if_icmp .lt 5, 3) := by decide +kernel
theorem dX0_add_12 : decode cX0_add 12 = .ok (.iconst 0, 1) := by decide +kernel
theorem dX0_add_13 : decode cX0_add 13 = .ok (.ireturn, 1) := by decide +kernel
theorem dX0_add_14 : decode cX0_add 14 = .ok (.aload_n 0, 1) := by decide +kernel
theorem dX0_add_15 : decode cX0_add 15 = .ok (.getfield 15, 3) := by decide +kernel
theorem dX0_add_18 : decode cX0_add 18 = .ok (.aload_n 0, 1) := by decide +kernel
theorem dX0_add_19 : decode cX0_add 19 = .ok (.getfield 25, 3) := by decide +kernel
theorem dX0_add_22 : decode cX0_add 22 = .ok (.iload_n 1, 1) := by decide +kernel
theorem dX0_add_23 : decode cX0_add 23 = .ok (.ldc 29, 2) := by decide +kernel
theorem dX0_add_25 : decode cX0_add 25 = .ok (.imul, 1) := by decide +kernel
theorem dX0_add_26 : decode cX0_add 26 = .ok (.iload_n 2, 1) := by decide +kernel
theorem dX0_add_27 : decode cX0_add 27 = .ok (.iadd, 1) := by decide +kernel
theorem dX0_add_28 : decode cX0_add 28 = .ok (.iastore, 1) := by decide +kernel
theorem dX0_add_29 : decode cX0_add 29 = .ok (.aload_n 0, 1) := by decide +kernel
theorem dX0_add_30 : decode cX0_add 30 = .ok (.getfield 21, 3) := by decide +kernel
theorem dX0_add_33 : decode cX0_add 33 = .ok (.aload_n 0, 1) := by decide +kernel
theorem dX0_add_34 : decode cX0_add 34 = .ok (.getfield 25, 3) := by decide +kernel
theorem dX0_add_37 : decode cX0_add 37 = .ok (.lload_n 3, 1) := by decide +kernel
theorem dX0_add_38 : decode cX0_add 38 = .ok (.lastore, 1) := by decide +kernel
theorem dX0_add_39 : decode cX0_add 39 = .ok (.aload_n 0, 1) := by decide +kernel
theorem dX0_add_40 : decode cX0_add 40 = .ok (.dup, 1) := by decide +kernel
theorem dX0_add_41 : decode cX0_add 41 = .ok (.getfield 25, 3) := by decide +kernel
theorem dX0_add_44 : decode cX0_add 44 = .ok (.iconst 1, 1) := by decide +kernel
theorem dX0_add_45 : decode cX0_add 45 = .ok (.iadd, 1) := by decide +kernel
theorem dX0_add_46 : decode cX0_add 46 = .ok (.putfield 25, 3) := by decide +kernel
theorem dX0_add_49 : decode cX0_add 49 = .ok (.iconst 1, 1) := by decide +kernel
theorem dX0_add_50 : decode cX0_add 50 = .ok (.ireturn, 1) := by decide +kernel
theorem dX0_kindOf_0 : decode cX0_kindOf 0 = .ok (.aload_n 0, 1) := by decide +kernel
theorem dX0_kindOf_1 : decode cX0_kindOf 1 = .ok (.getfield 15, 3) := by decide +kernel
theorem dX0_kindOf_4 : decode cX0_kindOf 4 = .ok (.iload_n 1, 1) := by decide +kernel
theorem dX0_kindOf_5 : decode cX0_kindOf 5 = .ok (.iaload, 1) := by decide +kernel
theorem dX0_kindOf_6 : decode cX0_kindOf 6 = .ok (.ldc 29, 2) := by decide +kernel
theorem dX0_kindOf_8 : decode cX0_kindOf 8 = .ok (.idiv, 1) := by decide +kernel
theorem dX0_kindOf_9 : decode cX0_kindOf 9 = .ok (.ireturn, 1) := by decide +kernel
theorem dX0_targetOf_0 : decode cX0_targetOf 0 = .ok (.aload_n 0, 1) := by decide +kernel
theorem dX0_targetOf_1 : decode cX0_targetOf 1 = .ok (.getfield 15, 3) := by decide +kernel
theorem dX0_targetOf_4 : decode cX0_targetOf 4 = .ok (.iload_n 1, 1) := by decide +kernel
theorem dX0_targetOf_5 : decode cX0_targetOf 5 = .ok (.iaload, 1) := by decide +kernel
theorem dX0_targetOf_6 : decode cX0_targetOf 6 = .ok (.ldc 29, 2) := by decide +kernel
theorem dX0_targetOf_8 : decode cX0_targetOf 8 = .ok (.irem, 1) := by decide +kernel
theorem dX0_targetOf_9 : decode cX0_targetOf 9 = .ok (.ireturn, 1) := by decide +kernel
theorem dX1_init_0 : decode cX1_init 0 = .ok (.aload_n 0, 1) := by decide +kernel
theorem dX1_init_1 : decode cX1_init 1 = .ok (.invokespecial 3, 3) := by decide +kernel
theorem dX1_init_4 : decode cX1_init 4 = .ok (.aload_n 0, 1) := by decide +kernel
theorem dX1_init_5 : decode cX1_init 5 = .ok (.bipush 61, 2) := by decide +kernel
theorem dX1_init_7 : decode cX1_init 7 = .ok (.newarray .int, 2) := by decide +kernel
theorem dX1_init_9 : decode cX1_init 9 = .ok (.putfield 9, 3) := by decide +kernel
theorem dX1_init_12 : decode cX1_init 12 = .ok (.aload_n 0, 1) := by decide +kernel
theorem dX1_init_13 : decode cX1_init 13 = .ok (.bipush 61, 2) := by decide +kernel
theorem dX1_init_15 : decode cX1_init 15 = .ok (.newarray .long, 2) := by decide +kernel
theorem dX1_init_17 : decode cX1_init 17 = .ok (.putfield 15, 3) := by decide +kernel
theorem dX1_init_20 : decode cX1_init 20 = .ok (.aload_n 0, 1) := by decide +kernel
theorem dX1_init_21 : decode cX1_init 21 = .ok (.bipush 61, 2) := by decide +kernel
theorem dX1_init_23 : decode cX1_init 23 = .ok (.newarray .long, 2) := by decide +kernel
theorem dX1_init_25 : decode cX1_init 25 = .ok (.putfield 19, 3) := by decide +kernel
theorem dX1_init_28 : decode cX1_init 28 = .ok (.return_, 1) := by decide +kernel
theorem dX1_has_0 : decode cX1_has 0 = .ok (.iload_n 1, 1) := by decide +kernel
theorem dX1_has_1 : decode cX1_has 1 = .ok (.iconst 1, 1) := by decide +kernel
theorem dX1_has_2 : decode cX1_has 2 = .ok (.if_icmp .lt 15, 3) := by decide +kernel
theorem dX1_has_5 : decode cX1_has 5 = .ok (.iload_n 1, 1) := by decide +kernel
theorem dX1_has_6 : decode cX1_has 6 = .ok (.aload_n 0, 1) := by decide +kernel
theorem dX1_has_7 : decode cX1_has 7 = .ok (.getfield 22, 3) := by decide +kernel
theorem dX1_has_10 : decode cX1_has 10 = .ok (.if_icmp .gt 7, 3) := by decide +kernel
theorem dX1_has_13 : decode cX1_has 13 = .ok (.iconst 1, 1) := by decide +kernel
theorem dX1_has_14 : decode cX1_has 14 = .ok (.goto 4, 3) := by decide +kernel
theorem dX1_has_17 : decode cX1_has 17 = .ok (.iconst 0, 1) := by decide +kernel
theorem dX1_has_18 : decode cX1_has 18 = .ok (.ireturn, 1) := by decide +kernel
theorem dX1_make_0 : decode cX1_make 0 = .ok (.aload_n 0, 1) := by decide +kernel
theorem dX1_make_1 : decode cX1_make 1 = .ok (.dup, 1) := by decide +kernel
theorem dX1_make_2 : decode cX1_make 2 = .ok (.getfield 22, 3) := by decide +kernel
theorem dX1_make_5 : decode cX1_make 5 = .ok (.iconst 1, 1) := by decide +kernel
theorem dX1_make_6 : decode cX1_make 6 = .ok (.iadd, 1) := by decide +kernel
theorem dX1_make_7 : decode cX1_make 7 = .ok (.putfield 22, 3) := by decide +kernel
theorem dX1_make_10 : decode cX1_make 10 = .ok (.aload_n 0, 1) := by decide +kernel
theorem dX1_make_11 : decode cX1_make 11 = .ok (.getfield 9, 3) := by decide +kernel
theorem dX1_make_14 : decode cX1_make 14 = .ok (.aload_n 0, 1) := by decide +kernel
theorem dX1_make_15 : decode cX1_make 15 = .ok (.getfield 22, 3) := by decide +kernel
theorem dX1_make_18 : decode cX1_make 18 = .ok (.iload_n 1, 1) := by decide +kernel
theorem dX1_make_19 : decode cX1_make 19 = .ok (.iastore, 1) := by decide +kernel
theorem dX1_make_20 : decode cX1_make 20 = .ok (.aload_n 0, 1) := by decide +kernel
theorem dX1_make_21 : decode cX1_make 21 = .ok (.getfield 15, 3) := by decide +kernel
theorem dX1_make_24 : decode cX1_make 24 = .ok (.aload_n 0, 1) := by decide +kernel
theorem dX1_make_25 : decode cX1_make 25 = .ok (.getfield 22, 3) := by decide +kernel
theorem dX1_make_28 : decode cX1_make 28 = .ok (.lload_n 2, 1) := by decide +kernel
theorem dX1_make_29 : decode cX1_make 29 = .ok (.getstatic 26, 3) := by decide +kernel
theorem dX1_make_32 : decode cX1_make 32 = .ok (.iload_n 1, 1) := by decide +kernel
theorem dX1_make_33 : decode cX1_make 33 = .ok (.laload, 1) := by decide +kernel
theorem dX1_make_34 : decode cX1_make 34 = .ok (.lrem, 1) := by decide +kernel
theorem dX1_make_35 : decode cX1_make 35 = .ok (.lastore, 1) := by decide +kernel
theorem dX1_make_36 : decode cX1_make 36 = .ok (.aload_n 0, 1) := by decide +kernel
theorem dX1_make_37 : decode cX1_make 37 = .ok (.getfield 22, 3) := by decide +kernel
theorem dX1_make_40 : decode cX1_make 40 = .ok (.ireturn, 1) := by decide +kernel
theorem dX1_move_0 : decode cX1_move 0 = .ok (.aload_n 0, 1) := by decide +kernel
theorem dX1_move_1 : decode cX1_move 1 = .ok (.getfield 15, 3) := by decide +kernel
theorem dX1_move_4 : decode cX1_move 4 = .ok (.iload_n 1, 1) := by decide +kernel
theorem dX1_move_5 : decode cX1_move 5 = .ok (.lload_n 2, 1) := by decide +kernel
theorem dX1_move_6 : decode cX1_move 6 = .ok (.getstatic 26, 3) := by decide +kernel
theorem dX1_move_9 : decode cX1_move 9 = .ok (.aload_n 0, 1) := by decide +kernel
theorem dX1_move_10 : decode cX1_move 10 = .ok (.getfield 9, 3) := by decide +kernel
theorem dX1_move_13 : decode cX1_move 13 = .ok (.iload_n 1, 1) := by decide +kernel
theorem dX1_move_14 : decode cX1_move 14 = .ok (.iaload, 1) := by decide +kernel
theorem dX1_move_15 : decode cX1_move 15 = .ok (.laload, 1) := by decide +kernel
theorem dX1_move_16 : decode cX1_move 16 = .ok (.lrem, 1) := by decide +kernel
theorem dX1_move_17 : decode cX1_move 17 = .ok (.lastore, 1) := by decide +kernel
theorem dX1_move_18 : decode cX1_move 18 = .ok (.return_, 1) := by decide +kernel
theorem dX1_mostOf_0 : decode cX1_mostOf 0 = .ok (.getstatic 26, 3) := by decide +kernel
theorem dX1_mostOf_3 : decode cX1_mostOf 3 = .ok (.aload_n 0, 1) := by decide +kernel
theorem dX1_mostOf_4 : decode cX1_mostOf 4 = .ok (.getfield 9, 3) := by decide +kernel
theorem dX1_mostOf_7 : decode cX1_mostOf 7 = .ok (.iload_n 1, 1) := by decide +kernel
theorem dX1_mostOf_8 : decode cX1_mostOf 8 = .ok (.iaload, 1) := by decide +kernel
theorem dX1_mostOf_9 : decode cX1_mostOf 9 = .ok (.laload, 1) := by decide +kernel
theorem dX1_mostOf_10 : decode cX1_mostOf 10 = .ok (.lconst 1, 1) := by decide +kernel
theorem dX1_mostOf_11 : decode cX1_mostOf 11 = .ok (.lsub, 1) := by decide +kernel
theorem dX1_mostOf_12 : decode cX1_mostOf 12 = .ok (.lreturn, 1) := by decide +kernel
theorem dX1_digit_0 : decode cX1_digit 0 = .ok (.aload_n 0, 1) := by decide +kernel
theorem dX1_digit_1 : decode cX1_digit 1 = .ok (.getfield 15, 3) := by decide +kernel
theorem dX1_digit_4 : decode cX1_digit 4 = .ok (.iload_n 1, 1) := by decide +kernel
theorem dX1_digit_5 : decode cX1_digit 5 = .ok (.laload, 1) := by decide +kernel
theorem dX1_digit_6 : decode cX1_digit 6 = .ok (.invokestatic 29, 3) := by decide +kernel
theorem dX1_digit_9 : decode cX1_digit 9 = .ok (.getstatic 26, 3) := by decide +kernel
theorem dX1_digit_12 : decode cX1_digit 12 = .ok (.aload_n 0, 1) := by decide +kernel
theorem dX1_digit_13 : decode cX1_digit 13 = .ok (.getfield 9, 3) := by decide +kernel
theorem dX1_digit_16 : decode cX1_digit 16 = .ok (.iload_n 1, 1) := by decide +kernel
theorem dX1_digit_17 : decode cX1_digit 17 = .ok (.iaload, 1) := by decide +kernel
theorem dX1_digit_18 : decode cX1_digit 18 = .ok (.iconst 1, 1) := by decide +kernel
theorem dX1_digit_19 : decode cX1_digit 19 = .ok (.isub, 1) := by decide +kernel
theorem dX1_digit_20 : decode cX1_digit 20 = .ok (.iload_n 2, 1) := by decide +kernel
theorem dX1_digit_21 : decode cX1_digit 21 = .ok (.isub, 1) := by decide +kernel
theorem dX1_digit_22 : decode cX1_digit 22 = .ok (.laload, 1) := by decide +kernel
theorem dX1_digit_23 : decode cX1_digit 23 = .ok (.ldiv, 1) := by decide +kernel
theorem dX1_digit_24 : decode cX1_digit 24 = .ok (.ldc2_w 35, 3) := by decide +kernel
theorem dX1_digit_27 : decode cX1_digit 27 = .ok (.lrem, 1) := by decide +kernel
theorem dX1_digit_28 : decode cX1_digit 28 = .ok (.l2i, 1) := by decide +kernel
theorem dX1_digit_29 : decode cX1_digit 29 = .ok (.ireturn, 1) := by decide +kernel
theorem dX1_keepAll_0 : decode cX1_keepAll 0 = .ok (.aload_n 0, 1) := by decide +kernel
theorem dX1_keepAll_1 : decode cX1_keepAll 1 = .ok (.getfield 15, 3) := by decide +kernel
theorem dX1_keepAll_4 : decode cX1_keepAll 4 = .ok (.iconst 0, 1) := by decide +kernel
theorem dX1_keepAll_5 : decode cX1_keepAll 5 = .ok (.aload_n 0, 1) := by decide +kernel
theorem dX1_keepAll_6 : decode cX1_keepAll 6 = .ok (.getfield 19, 3) := by decide +kernel
theorem dX1_keepAll_9 : decode cX1_keepAll 9 = .ok (.iconst 0, 1) := by decide +kernel
theorem dX1_keepAll_10 : decode cX1_keepAll 10 = .ok (.aload_n 0, 1) := by decide +kernel
theorem dX1_keepAll_11 : decode cX1_keepAll 11 = .ok (.getfield 15, 3) := by decide +kernel
theorem dX1_keepAll_14 : decode cX1_keepAll 14 = .ok (.arraylength, 1) := by decide +kernel
theorem dX1_keepAll_15 : decode cX1_keepAll 15 = .ok (.invokestatic 37, 3) := by decide +kernel
theorem dX1_keepAll_18 : decode cX1_keepAll 18 = .ok (.return_, 1) := by decide +kernel
theorem dX1_bringBackAll_0 : decode cX1_bringBackAll 0 = .ok (.aload_n 0, 1) := by decide +kernel
theorem dX1_bringBackAll_1 : decode cX1_bringBackAll 1 = .ok (.getfield 19, 3) := by decide +kernel
theorem dX1_bringBackAll_4 : decode cX1_bringBackAll 4 = .ok (.iconst 0, 1) := by decide +kernel
theorem dX1_bringBackAll_5 : decode cX1_bringBackAll 5 = .ok (.aload_n 0, 1) := by decide +kernel
theorem dX1_bringBackAll_6 : decode cX1_bringBackAll 6 = .ok (.getfield 15, 3) := by decide +kernel
theorem dX1_bringBackAll_9 : decode cX1_bringBackAll 9 = .ok (.iconst 0, 1) := by decide +kernel
theorem dX1_bringBackAll_10 : decode cX1_bringBackAll 10 = .ok (.aload_n 0, 1) := by decide +kernel
theorem dX1_bringBackAll_11 : decode cX1_bringBackAll 11 = .ok (.getfield 15, 3) := by decide +kernel
theorem dX1_bringBackAll_14 : decode cX1_bringBackAll 14 = .ok (.arraylength, 1) := by decide +kernel
theorem dX1_bringBackAll_15 : decode cX1_bringBackAll 15 = .ok (.invokestatic 37, 3) := by decide +kernel
theorem dX1_bringBackAll_18 : decode cX1_bringBackAll 18 = .ok (.return_, 1) := by decide +kernel
theorem dX2_init_0 : decode cX2_init 0 = .ok (.aload_n 0, 1) := by decide +kernel
theorem dX2_init_1 : decode cX2_init 1 = .ok (.invokespecial 3, 3) := by decide +kernel
theorem dX2_init_4 : decode cX2_init 4 = .ok (.aload_n 0, 1) := by decide +kernel
theorem dX2_init_5 : decode cX2_init 5 = .ok (.sipush 1000, 3) := by decide +kernel
theorem dX2_init_8 : decode cX2_init 8 = .ok (.newarray .int, 2) := by decide +kernel
theorem dX2_init_10 : decode cX2_init 10 = .ok (.putfield 9, 3) := by decide +kernel
theorem dX2_init_13 : decode cX2_init 13 = .ok (.aload_n 0, 1) := by decide +kernel
theorem dX2_init_14 : decode cX2_init 14 = .ok (.sipush 1000, 3) := by decide +kernel
theorem dX2_init_17 : decode cX2_init 17 = .ok (.newarray .long, 2) := by decide +kernel
theorem dX2_init_19 : decode cX2_init 19 = .ok (.putfield 15, 3) := by decide +kernel
theorem dX2_init_22 : decode cX2_init 22 = .ok (.return_, 1) := by decide +kernel
theorem dX2_firstFrom_0 : decode cX2_firstFrom 0 = .ok (.iconst 0, 1) := by decide +kernel
theorem dX2_firstFrom_1 : decode cX2_firstFrom 1 = .ok (.istore_n 2, 1) := by decide +kernel
theorem dX2_firstFrom_2 : decode cX2_firstFrom 2 = .ok (.sipush 512, 3) := by decide +kernel
theorem dX2_firstFrom_5 : decode cX2_firstFrom 5 = .ok (.istore_n 3, 1) := by decide +kernel
theorem dX2_firstFrom_6 : decode cX2_firstFrom 6 = .ok (.iload_n 3, 1) := by decide +kernel
theorem dX2_firstFrom_7 : decode cX2_firstFrom 7 = .ok (.ifCond .le 38, 3) := by decide +kernel
theorem dX2_firstFrom_10 : decode cX2_firstFrom 10 = .ok (.iload_n 2, 1) := by decide +kernel
theorem dX2_firstFrom_11 : decode cX2_firstFrom 11 = .ok (.iload_n 3, 1) := by decide +kernel
theorem dX2_firstFrom_12 : decode cX2_firstFrom 12 = .ok (.iadd, 1) := by decide +kernel
theorem dX2_firstFrom_13 : decode cX2_firstFrom 13 = .ok (.aload_n 0, 1) := by decide +kernel
theorem dX2_firstFrom_14 : decode cX2_firstFrom 14 = .ok (.getfield 19, 3) := by decide +kernel
theorem dX2_firstFrom_17 : decode cX2_firstFrom 17 = .ok (.if_icmp .gt 21, 3) := by decide +kernel
theorem dX2_firstFrom_20 : decode cX2_firstFrom 20 = .ok (.aload_n 0, 1) := by decide +kernel
theorem dX2_firstFrom_21 : decode cX2_firstFrom 21 = .ok (.getfield 9, 3) := by decide +kernel
theorem dX2_firstFrom_24 : decode cX2_firstFrom 24 = .ok (.iload_n 2, 1) := by decide +kernel
theorem dX2_firstFrom_25 : decode cX2_firstFrom 25 = .ok (.iload_n 3, 1) := by decide +kernel
theorem dX2_firstFrom_26 : decode cX2_firstFrom 26 = .ok (.iadd, 1) := by decide +kernel
theorem dX2_firstFrom_27 : decode cX2_firstFrom 27 = .ok (.iconst 1, 1) := by decide +kernel
theorem dX2_firstFrom_28 : decode cX2_firstFrom 28 = .ok (.isub, 1) := by decide +kernel
theorem dX2_firstFrom_29 : decode cX2_firstFrom 29 = .ok (.iaload, 1) := by decide +kernel
theorem dX2_firstFrom_30 : decode cX2_firstFrom 30 = .ok (.iload_n 1, 1) := by decide +kernel
theorem dX2_firstFrom_31 : decode cX2_firstFrom 31 = .ok (.if_icmp .ge 7, 3) := by decide +kernel
theorem dX2_firstFrom_34 : decode cX2_firstFrom 34 = .ok (.iload_n 2, 1) := by decide +kernel
theorem dX2_firstFrom_35 : decode cX2_firstFrom 35 = .ok (.iload_n 3, 1) := by decide +kernel
theorem dX2_firstFrom_36 : decode cX2_firstFrom 36 = .ok (.iadd, 1) := by decide +kernel
theorem dX2_firstFrom_37 : decode cX2_firstFrom 37 = .ok (.istore_n 2, 1) := by decide +kernel
theorem dX2_firstFrom_38 : decode cX2_firstFrom 38 = .ok (.iload_n 3, 1) := by decide +kernel
theorem dX2_firstFrom_39 : decode cX2_firstFrom 39 = .ok (.iconst 2, 1) := by decide +kernel
theorem dX2_firstFrom_40 : decode cX2_firstFrom 40 = .ok (.idiv, 1) := by decide +kernel
theorem dX2_firstFrom_41 : decode cX2_firstFrom 41 = .ok (.istore_n 3, 1) := by decide +kernel
theorem dX2_firstFrom_42 : decode cX2_firstFrom 42 = .ok (.goto (-36), 3) := by decide +kernel
theorem dX2_firstFrom_45 : decode cX2_firstFrom 45 = .ok (.iload_n 2, 1) := by decide +kernel
theorem dX2_firstFrom_46 : decode cX2_firstFrom 46 = .ok (.ireturn, 1) := by decide +kernel
set_option maxRecDepth 20000 in
theorem ggX2_put_X2_firstFrom : GoodIn wsX2_put wsX2_firstFrom := goodIn_r _ [12, 1, 2, 13, 14, 15] (by decide +kernel) (by decide +kernel)
set_option maxRecDepth 20000 in
theorem gX2_put_X2_firstFrom : GoodIn wsX2_put (wsV RX2 23 RX2 yX2_firstFrom wsX2_firstFrom) := goodIn_app (goodIn_of _ (by decide +kernel)) ggX2_put_X2_firstFrom
theorem dX2_put_0 : decode cX2_put 0 = .ok (.aload_n 0, 1) := by decide +kernel
theorem dX2_put_1 : decode cX2_put 1 = .ok (.iload_n 1, 1) := by decide +kernel
theorem dX2_put_2 : decode cX2_put 2 = .ok (.invokevirtual 23, 3) := by decide +kernel
theorem dX2_put_5 : decode cX2_put 5 = .ok (.istore 4, 2) := by decide +kernel
theorem dX2_put_7 : decode cX2_put 7 = .ok (.iload 4, 2) := by decide +kernel
theorem dX2_put_9 : decode cX2_put 9 = .ok (.aload_n 0, 1) := by decide +kernel
theorem dX2_put_10 : decode cX2_put 10 = .ok (.getfield 19, 3) := by decide +kernel
theorem dX2_put_13 : decode cX2_put 13 = .ok (.if_icmp .ge 23, 3) := by decide +kernel
theorem dX2_put_16 : decode cX2_put 16 = .ok (.aload_n 0, 1) := by decide +kernel
theorem dX2_put_17 : decode cX2_put 17 = .ok (.getfield 9, 3) := by decide +kernel
theorem dX2_put_20 : decode cX2_put 20 = .ok (.iload 4, 2) := by decide +kernel
theorem dX2_put_22 : decode cX2_put 22 = .ok (.iaload, 1) := by decide +kernel
theorem dX2_put_23 : decode cX2_put 23 = .ok (.iload_n 1, 1) := by decide +kernel
theorem dX2_put_24 : decode cX2_put 24 = .ok (.if_icmp .ne 12, 3) := by decide +kernel
theorem dX2_put_27 : decode cX2_put 27 = .ok (.aload_n 0, 1) := by decide +kernel
theorem dX2_put_28 : decode cX2_put 28 = .ok (.getfield 15, 3) := by decide +kernel
theorem dX2_put_31 : decode cX2_put 31 = .ok (.iload 4, 2) := by decide +kernel
theorem dX2_put_33 : decode cX2_put 33 = .ok (.lload_n 2, 1) := by decide +kernel
theorem dX2_put_34 : decode cX2_put 34 = .ok (.lastore, 1) := by decide +kernel
theorem dX2_put_35 : decode cX2_put 35 = .ok (.return_, 1) := by decide +kernel
theorem dX2_put_36 : decode cX2_put 36 = .ok (.aload_n 0, 1) := by decide +kernel
theorem dX2_put_37 : decode cX2_put 37 = .ok (.getfield 19, 3) := by decide +kernel
theorem dX2_put_40 : decode cX2_put 40 = .ok (.aload_n 0, 1) := by decide +kernel
theorem dX2_put_41 : decode cX2_put 41 = .ok (.getfield 9, 3) := by decide +kernel
theorem dX2_put_44 : decode cX2_put 44 = .ok (.arraylength, 1) := by decide +kernel
theorem dX2_put_45 : decode cX2_put 45 = .ok (.if_icmp .lt 4, 3) := by decide +kernel
theorem dX2_put_48 : decode cX2_put 48 = .ok (.return_, 1) := by decide +kernel
theorem dX2_put_49 : decode cX2_put 49 = .ok (.aload_n 0, 1) := by decide +kernel
theorem dX2_put_50 : decode cX2_put 50 = .ok (.getfield 9, 3) := by decide +kernel
theorem dX2_put_53 : decode cX2_put 53 = .ok (.iload 4, 2) := by decide +kernel
theorem dX2_put_55 : decode cX2_put 55 = .ok (.aload_n 0, 1) := by decide +kernel
theorem dX2_put_56 : decode cX2_put 56 = .ok (.getfield 9, 3) := by decide +kernel
theorem dX2_put_59 : decode cX2_put 59 = .ok (.iload 4, 2) := by decide +kernel
theorem dX2_put_61 : decode cX2_put 61 = .ok (.iconst 1, 1) := by decide +kernel
theorem dX2_put_62 : decode cX2_put 62 = .ok (.iadd, 1) := by decide +kernel
theorem dX2_put_63 : decode cX2_put 63 = .ok (.aload_n 0, 1) := by decide +kernel
theorem dX2_put_64 : decode cX2_put 64 = .ok (.getfield 19, 3) := by decide +kernel
theorem dX2_put_67 : decode cX2_put 67 = .ok (.iload 4, 2) := by decide +kernel
theorem dX2_put_69 : decode cX2_put 69 = .ok (.isub, 1) := by decide +kernel
theorem dX2_put_70 : decode cX2_put 70 = .ok (.invokestatic 27, 3) := by decide +kernel
theorem dX2_put_73 : decode cX2_put 73 = .ok (.aload_n 0, 1) := by decide +kernel
theorem dX2_put_74 : decode cX2_put 74 = .ok (.getfield 15, 3) := by decide +kernel
theorem dX2_put_77 : decode cX2_put 77 = .ok (.iload 4, 2) := by decide +kernel
theorem dX2_put_79 : decode cX2_put 79 = .ok (.aload_n 0, 1) := by decide +kernel
theorem dX2_put_80 : decode cX2_put 80 = .ok (.getfield 15, 3) := by decide +kernel
theorem dX2_put_83 : decode cX2_put 83 = .ok (.iload 4, 2) := by decide +kernel
theorem dX2_put_85 : decode cX2_put 85 = .ok (.iconst 1, 1) := by decide +kernel
theorem dX2_put_86 : decode cX2_put 86 = .ok (.iadd, 1) := by decide +kernel
theorem dX2_put_87 : decode cX2_put 87 = .ok (.aload_n 0, 1) := by decide +kernel
theorem dX2_put_88 : decode cX2_put 88 = .ok (.getfield 19, 3) := by decide +kernel
theorem dX2_put_91 : decode cX2_put 91 = .ok (.iload 4, 2) := by decide +kernel
theorem dX2_put_93 : decode cX2_put 93 = .ok (.isub, 1) := by decide +kernel
theorem dX2_put_94 : decode cX2_put 94 = .ok (.invokestatic 27, 3) := by decide +kernel
theorem dX2_put_97 : decode cX2_put 97 = .ok (.aload_n 0, 1) := by decide +kernel
theorem dX2_put_98 : decode cX2_put 98 = .ok (.getfield 9, 3) := by decide +kernel
theorem dX2_put_101 : decode cX2_put 101 = .ok (.iload 4, 2) := by decide +kernel
theorem dX2_put_103 : decode cX2_put 103 = .ok (.iload_n 1, 1) := by decide +kernel
theorem dX2_put_104 : decode cX2_put 104 = .ok (.iastore, 1) := by decide +kernel
theorem dX2_put_105 : decode cX2_put 105 = .ok (.aload_n 0, 1) := by decide +kernel
theorem dX2_put_106 : decode cX2_put 106 = .ok (.getfield 15, 3) := by decide +kernel
theorem dX2_put_109 : decode cX2_put 109 = .ok (.iload 4, 2) := by decide +kernel
theorem dX2_put_111 : decode cX2_put 111 = .ok (.lload_n 2, 1) := by decide +kernel
theorem dX2_put_112 : decode cX2_put 112 = .ok (.lastore, 1) := by decide +kernel
theorem dX2_put_113 : decode cX2_put 113 = .ok (.aload_n 0, 1) := by decide +kernel
theorem dX2_put_114 : decode cX2_put 114 = .ok (.dup, 1) := by decide +kernel
theorem dX2_put_115 : decode cX2_put 115 = .ok (.getfield 19, 3) := by decide +kernel
theorem dX2_put_118 : decode cX2_put 118 = .ok (.iconst 1, 1) := by decide +kernel
theorem dX2_put_119 : decode cX2_put 119 = .ok (.iadd, 1) := by decide +kernel
theorem dX2_put_120 : decode cX2_put 120 = .ok (.putfield 19, 3) := by decide +kernel
theorem dX2_put_123 : decode cX2_put 123 = .ok (.return_, 1) := by decide +kernel
set_option maxRecDepth 20000 in
theorem ggX2_drop_X2_firstFrom : GoodIn wsX2_drop wsX2_firstFrom := goodIn_r _ [12, 1, 2, 13, 14, 15] (by decide +kernel) (by decide +kernel)
set_option maxRecDepth 20000 in
theorem gX2_drop_X2_firstFrom : GoodIn wsX2_drop (wsV RX2 23 RX2 yX2_firstFrom wsX2_firstFrom) := goodIn_app (goodIn_of _ (by decide +kernel)) ggX2_drop_X2_firstFrom
theorem dX2_drop_0 : decode cX2_drop 0 = .ok (.aload_n 0, 1) := by decide +kernel
theorem dX2_drop_1 : decode cX2_drop 1 = .ok (.iload_n 1, 1) := by decide +kernel
theorem dX2_drop_2 : decode cX2_drop 2 = .ok (.invokevirtual 23, 3) := by decide +kernel
theorem dX2_drop_5 : decode cX2_drop 5 = .ok (.istore_n 2, 1) := by decide +kernel
theorem dX2_drop_6 : decode cX2_drop 6 = .ok (.iload_n 2, 1) := by decide +kernel
theorem dX2_drop_7 : decode cX2_drop 7 = .ok (.aload_n 0, 1) := by decide +kernel
theorem dX2_drop_8 : decode cX2_drop 8 = .ok (.getfield 19, 3) := by decide +kernel
theorem dX2_drop_11 : decode cX2_drop 11 = .ok (.if_icmp .ge 13, 3) := by decide +kernel
theorem dX2_drop_14 : decode cX2_drop 14 = .ok (.aload_n 0, 1) := by decide +kernel
theorem dX2_drop_15 : decode cX2_drop 15 = .ok (.getfield 9, 3) := by decide +kernel
theorem dX2_drop_18 : decode cX2_drop 18 = .ok (.iload_n 2, 1) := by decide +kernel
theorem dX2_drop_19 : decode cX2_drop 19 = .ok (.iaload, 1) := by decide +kernel
theorem dX2_drop_20 : decode cX2_drop 20 = .ok (.iload_n 1, 1) := by decide +kernel
theorem dX2_drop_21 : decode cX2_drop 21 = .ok (.if_icmp .eq 4, 3) := by decide +kernel
theorem dX2_drop_24 : decode cX2_drop 24 = .ok (.return_, 1) := by decide +kernel
theorem dX2_drop_25 : decode cX2_drop 25 = .ok (.aload_n 0, 1) := by decide +kernel
theorem dX2_drop_26 : decode cX2_drop 26 = .ok (.dup, 1) := by decide +kernel
theorem dX2_drop_27 : decode cX2_drop 27 = .ok (.getfield 19, 3) := by decide +kernel
theorem dX2_drop_30 : decode cX2_drop 30 = .ok (.iconst 1, 1) := by decide +kernel
theorem dX2_drop_31 : decode cX2_drop 31 = .ok (.isub, 1) := by decide +kernel
theorem dX2_drop_32 : decode cX2_drop 32 = .ok (.putfield 19, 3) := by decide +kernel
theorem dX2_drop_35 : decode cX2_drop 35 = .ok (.aload_n 0, 1) := by decide +kernel
theorem dX2_drop_36 : decode cX2_drop 36 = .ok (.getfield 9, 3) := by decide +kernel
theorem dX2_drop_39 : decode cX2_drop 39 = .ok (.iload_n 2, 1) := by decide +kernel
theorem dX2_drop_40 : decode cX2_drop 40 = .ok (.iconst 1, 1) := by decide +kernel
theorem dX2_drop_41 : decode cX2_drop 41 = .ok (.iadd, 1) := by decide +kernel
theorem dX2_drop_42 : decode cX2_drop 42 = .ok (.aload_n 0, 1) := by decide +kernel
theorem dX2_drop_43 : decode cX2_drop 43 = .ok (.getfield 9, 3) := by decide +kernel
theorem dX2_drop_46 : decode cX2_drop 46 = .ok (.iload_n 2, 1) := by decide +kernel
theorem dX2_drop_47 : decode cX2_drop 47 = .ok (.aload_n 0, 1) := by decide +kernel
theorem dX2_drop_48 : decode cX2_drop 48 = .ok (.getfield 19, 3) := by decide +kernel
theorem dX2_drop_51 : decode cX2_drop 51 = .ok (.iload_n 2, 1) := by decide +kernel
theorem dX2_drop_52 : decode cX2_drop 52 = .ok (.isub, 1) := by decide +kernel
theorem dX2_drop_53 : decode cX2_drop 53 = .ok (.invokestatic 27, 3) := by decide +kernel
theorem dX2_drop_56 : decode cX2_drop 56 = .ok (.aload_n 0, 1) := by decide +kernel
theorem dX2_drop_57 : decode cX2_drop 57 = .ok (.getfield 15, 3) := by decide +kernel
theorem dX2_drop_60 : decode cX2_drop 60 = .ok (.iload_n 2, 1) := by decide +kernel
theorem dX2_drop_61 : decode cX2_drop 61 = .ok (.iconst 1, 1) := by decide +kernel
theorem dX2_drop_62 : decode cX2_drop 62 = .ok (.iadd, 1) := by decide +kernel
theorem dX2_drop_63 : decode cX2_drop 63 = .ok (.aload_n 0, 1) := by decide +kernel
theorem dX2_drop_64 : decode cX2_drop 64 = .ok (.getfield 15, 3) := by decide +kernel
theorem dX2_drop_67 : decode cX2_drop 67 = .ok (.iload_n 2, 1) := by decide +kernel
theorem dX2_drop_68 : decode cX2_drop 68 = .ok (.aload_n 0, 1) := by decide +kernel
theorem dX2_drop_69 : decode cX2_drop 69 = .ok (.getfield 19, 3) := by decide +kernel
theorem dX2_drop_72 : decode cX2_drop 72 = .ok (.iload_n 2, 1) := by decide +kernel
theorem dX2_drop_73 : decode cX2_drop 73 = .ok (.isub, 1) := by decide +kernel
theorem dX2_drop_74 : decode cX2_drop 74 = .ok (.invokestatic 27, 3) := by decide +kernel
theorem dX2_drop_77 : decode cX2_drop 77 = .ok (.return_, 1) := by decide +kernel
theorem dX3_init_0 : decode cX3_init 0 = .ok (.aload_n 0, 1) := by decide +kernel
theorem dX3_init_1 : decode cX3_init 1 = .ok (.invokespecial 3, 3) := by decide +kernel
theorem dX3_init_4 : decode cX3_init 4 = .ok (.aload_n 0, 1) := by decide +kernel
theorem dX3_init_5 : decode cX3_init 5 = .ok (.sipush 201, 3) := by decide +kernel
theorem dX3_init_8 : decode cX3_init 8 = .ok (.newarray .int, 2) := by decide +kernel
theorem dX3_init_10 : decode cX3_init 10 = .ok (.putfield 9, 3) := by decide +kernel
theorem dX3_init_13 : decode cX3_init 13 = .ok (.aload_n 0, 1) := by decide +kernel
theorem dX3_init_14 : decode cX3_init 14 = .ok (.sipush 201, 3) := by decide +kernel
theorem dX3_init_17 : decode cX3_init 17 = .ok (.newarray .int, 2) := by decide +kernel
theorem dX3_init_19 : decode cX3_init 19 = .ok (.putfield 15, 3) := by decide +kernel
theorem dX3_init_22 : decode cX3_init 22 = .ok (.aload_n 0, 1) := by decide +kernel
theorem dX3_init_23 : decode cX3_init 23 = .ok (.sipush 201, 3) := by decide +kernel
theorem dX3_init_26 : decode cX3_init 26 = .ok (.newarray .int, 2) := by decide +kernel
theorem dX3_init_28 : decode cX3_init 28 = .ok (.putfield 18, 3) := by decide +kernel
theorem dX3_init_31 : decode cX3_init 31 = .ok (.return_, 1) := by decide +kernel
theorem dX3_has_0 : decode cX3_has 0 = .ok (.iload_n 1, 1) := by decide +kernel
theorem dX3_has_1 : decode cX3_has 1 = .ok (.iconst 1, 1) := by decide +kernel
theorem dX3_has_2 : decode cX3_has 2 = .ok (.if_icmp .lt 15, 3) := by decide +kernel
theorem dX3_has_5 : decode cX3_has 5 = .ok (.iload_n 1, 1) := by decide +kernel
theorem dX3_has_6 : decode cX3_has 6 = .ok (.aload_n 0, 1) := by decide +kernel
theorem dX3_has_7 : decode cX3_has 7 = .ok (.getfield 21, 3) := by decide +kernel
theorem dX3_has_10 : decode cX3_has 10 = .ok (.if_icmp .gt 7, 3) := by decide +kernel
theorem dX3_has_13 : decode cX3_has 13 = .ok (.iconst 1, 1) := by decide +kernel
theorem dX3_has_14 : decode cX3_has 14 = .ok (.goto 4, 3) := by decide +kernel
theorem dX3_has_17 : decode cX3_has 17 = .ok (.iconst 0, 1) := by decide +kernel
theorem dX3_has_18 : decode cX3_has 18 = .ok (.ireturn, 1) := by decide +kernel
theorem dX3_make_0 : decode cX3_make 0 = .ok (.aload_n 0, 1) := by decide +kernel
theorem dX3_make_1 : decode cX3_make 1 = .ok (.dup, 1) := by decide +kernel
theorem dX3_make_2 : decode cX3_make 2 = .ok (.getfield 21, 3) := by decide +kernel
theorem dX3_make_5 : decode cX3_make 5 = .ok (.iconst 1, 1) := by decide +kernel
theorem dX3_make_6 : decode cX3_make 6 = .ok (.iadd, 1) := by decide +kernel
theorem dX3_make_7 : decode cX3_make 7 = .ok (.putfield 21, 3) := by decide +kernel
theorem dX3_make_10 : decode cX3_make 10 = .ok (.aload_n 0, 1) := by decide +kernel
theorem dX3_make_11 : decode cX3_make 11 = .ok (.getfield 9, 3) := by decide +kernel
theorem dX3_make_14 : decode cX3_make 14 = .ok (.aload_n 0, 1) := by decide +kernel
theorem dX3_make_15 : decode cX3_make 15 = .ok (.getfield 21, 3) := by decide +kernel
theorem dX3_make_18 : decode cX3_make 18 = .ok (.iload_n 1, 1) := by decide +kernel
theorem dX3_make_19 : decode cX3_make 19 = .ok (.iastore, 1) := by decide +kernel
theorem dX3_make_20 : decode cX3_make 20 = .ok (.aload_n 0, 1) := by decide +kernel
theorem dX3_make_21 : decode cX3_make 21 = .ok (.getfield 15, 3) := by decide +kernel
theorem dX3_make_24 : decode cX3_make 24 = .ok (.aload_n 0, 1) := by decide +kernel
theorem dX3_make_25 : decode cX3_make 25 = .ok (.getfield 21, 3) := by decide +kernel
theorem dX3_make_28 : decode cX3_make 28 = .ok (.iload_n 2, 1) := by decide +kernel
theorem dX3_make_29 : decode cX3_make 29 = .ok (.iastore, 1) := by decide +kernel
theorem dX3_make_30 : decode cX3_make 30 = .ok (.aload_n 0, 1) := by decide +kernel
theorem dX3_make_31 : decode cX3_make 31 = .ok (.getfield 18, 3) := by decide +kernel
theorem dX3_make_34 : decode cX3_make 34 = .ok (.aload_n 0, 1) := by decide +kernel
theorem dX3_make_35 : decode cX3_make 35 = .ok (.getfield 21, 3) := by decide +kernel
theorem dX3_make_38 : decode cX3_make 38 = .ok (.iload_n 3, 1) := by decide +kernel
theorem dX3_make_39 : decode cX3_make 39 = .ok (.iastore, 1) := by decide +kernel
theorem dX3_make_40 : decode cX3_make 40 = .ok (.aload_n 0, 1) := by decide +kernel
theorem dX3_make_41 : decode cX3_make 41 = .ok (.getfield 21, 3) := by decide +kernel
theorem dX3_make_44 : decode cX3_make 44 = .ok (.ireturn, 1) := by decide +kernel
theorem dX4_init_0 : decode cX4_init 0 = .ok (.aload_n 0, 1) := by decide +kernel
theorem dX4_init_1 : decode cX4_init 1 = .ok (.invokespecial 3, 3) := by decide +kernel
theorem dX4_init_4 : decode cX4_init 4 = .ok (.aload_n 0, 1) := by decide +kernel
theorem dX4_init_5 : decode cX4_init 5 = .ok (.sipush 1920, 3) := by decide +kernel
theorem dX4_init_8 : decode cX4_init 8 = .ok (.newarray .byte, 2) := by decide +kernel
theorem dX4_init_10 : decode cX4_init 10 = .ok (.putfield 9, 3) := by decide +kernel
theorem dX4_init_13 : decode cX4_init 13 = .ok (.return_, 1) := by decide +kernel
set_option maxRecDepth 20000 in
theorem ggX4_put_X10_placeIndex : GoodIn wsX4_put wsX10_placeIndex := goodIn_r _ [4] (by decide +kernel) (by decide +kernel)
set_option maxRecDepth 20000 in
theorem gX4_put_X10_placeIndex_n15 : GoodIn wsX4_put (wsX10_placeIndex) := ggX4_put_X10_placeIndex
theorem dX4_put_0 : decode cX4_put 0 = .ok (.aload_n 0, 1) := by decide +kernel
theorem dX4_put_1 : decode cX4_put 1 = .ok (.getfield 9, 3) := by decide +kernel
theorem dX4_put_4 : decode cX4_put 4 = .ok (.iload_n 1, 1) := by decide +kernel
theorem dX4_put_5 : decode cX4_put 5 = .ok (.invokestatic 15, 3) := by decide +kernel
theorem dX4_put_8 : decode cX4_put 8 = .ok (.lload_n 2, 1) := by decide +kernel
theorem dX4_put_9 : decode cX4_put 9 = .ok (.l2i, 1) := by decide +kernel
theorem dX4_put_10 : decode cX4_put 10 = .ok (.i2b, 1) := by decide +kernel
theorem dX4_put_11 : decode cX4_put 11 = .ok (.bastore, 1) := by decide +kernel
theorem dX4_put_12 : decode cX4_put 12 = .ok (.return_, 1) := by decide +kernel
theorem dX5_init_0 : decode cX5_init 0 = .ok (.aload_n 0, 1) := by decide +kernel
theorem dX5_init_1 : decode cX5_init 1 = .ok (.invokespecial 3, 3) := by decide +kernel
theorem dX5_init_4 : decode cX5_init 4 = .ok (.aload_n 0, 1) := by decide +kernel
theorem dX5_init_5 : decode cX5_init 5 = .ok (.sipush 1000, 3) := by decide +kernel
theorem dX5_init_8 : decode cX5_init 8 = .ok (.newarray .int, 2) := by decide +kernel
theorem dX5_init_10 : decode cX5_init 10 = .ok (.putfield 9, 3) := by decide +kernel
theorem dX5_init_13 : decode cX5_init 13 = .ok (.aload_n 0, 1) := by decide +kernel
theorem dX5_init_14 : decode cX5_init 14 = .ok (.sipush 1000, 3) := by decide +kernel
theorem dX5_init_17 : decode cX5_init 17 = .ok (.newarray .int, 2) := by decide +kernel
theorem dX5_init_19 : decode cX5_init 19 = .ok (.putfield 15, 3) := by decide +kernel
theorem dX5_init_22 : decode cX5_init 22 = .ok (.return_, 1) := by decide +kernel
set_option maxRecDepth 20000 in
theorem ggX5_countSame_X5_gather : GoodIn wsX5_countSame wsX5_gather := goodIn_r _ [7, 1, 8, 2, 9, 10, 11, 12, 13, 14, 15, 44, 45, 46, 47, 48, 49] (by decide +kernel) (by decide +kernel)
set_option maxRecDepth 20000 in
theorem gX5_countSame_X5_gather : GoodIn wsX5_countSame (wsV RX5 18 RX5 yX5_gather wsX5_gather) := goodIn_app (goodIn_of _ (by decide +kernel)) ggX5_countSame_X5_gather
set_option maxRecDepth 20000 in
theorem ggX5_countSame_X5_mergeAll : GoodIn wsX5_countSame wsX5_mergeAll := goodIn_r _ [19, 1, 20, 21, 22, 23, 24, 2, 25, 26, 27, 6, 28, 29, 30, 31, 12, 32, 14, 15, 44, 45, 46, 47, 48, 49] (by decide +kernel) (by decide +kernel)
set_option maxRecDepth 20000 in
theorem gX5_countSame_X5_mergeAll : GoodIn wsX5_countSame (wsV RX5 26 RX5 yX5_mergeAll wsX5_mergeAll) := goodIn_app (goodIn_of _ (by decide +kernel)) ggX5_countSame_X5_mergeAll
set_option maxRecDepth 20000 in
theorem ggX5_countSame_X5_isLatest : GoodIn wsX5_countSame wsX5_isLatest := goodIn_r _ [36, 1, 2, 29, 30, 31, 12, 32, 14, 15, 44, 45, 46, 47, 48, 49] (by decide +kernel) (by decide +kernel)
set_option maxRecDepth 20000 in
theorem gX5_countSame_X5_isLatest : GoodIn wsX5_countSame (wsV RX5 30 RX5 yX5_isLatest wsX5_isLatest) := goodIn_app (goodIn_of _ (by decide +kernel)) ggX5_countSame_X5_isLatest
set_option maxRecDepth 20000 in
theorem ggX5_countSame_X0_kindOf : GoodIn wsX5_countSame wsX0_kindOf := goodIn_r _ [13, 14, 15, 47, 48, 49] (by decide +kernel) (by decide +kernel)
set_option maxRecDepth 20000 in
theorem gX5_countSame_X0_kindOf : GoodIn wsX5_countSame (wsV RX5 34 RX0 yX0_kindOf wsX0_kindOf) := goodIn_app (goodIn_of _ (by decide +kernel)) ggX5_countSame_X0_kindOf
set_option maxRecDepth 20000 in
theorem ggX5_countSame_X5_isSame : GoodIn wsX5_countSame wsX5_isSame := goodIn_r _ [39, 40, 41, 42, 43, 29, 30, 31, 12, 32, 14, 15, 50, 51, 52, 47, 48, 49] (by decide +kernel) (by decide +kernel)
set_option maxRecDepth 20000 in
theorem gX5_countSame_X5_isSame : GoodIn wsX5_countSame (va_wsS RX5 40 yX5_isSame wsX5_isSame) := goodIn_app (goodIn_of _ (by decide +kernel)) ggX5_countSame_X5_isSame
theorem dX5_countSame_0 : decode cX5_countSame 0 = .ok (.aload_n 0, 1) := by decide +kernel
theorem dX5_countSame_1 : decode cX5_countSame 1 = .ok (.aload_n 1, 1) := by decide +kernel
theorem dX5_countSame_2 : decode cX5_countSame 2 = .ok (.invokevirtual 18, 3) := by decide +kernel
theorem dX5_countSame_5 : decode cX5_countSame 5 = .ok (.iconst 1, 1) := by decide +kernel
theorem dX5_countSame_6 : decode cX5_countSame 6 = .ok (.istore_n 3, 1) := by decide +kernel
theorem dX5_countSame_7 : decode cX5_countSame 7 = .ok (.iload_n 3, 1) := by decide +kernel
theorem dX5_countSame_8 : decode cX5_countSame 8 = .ok (.aload_n 0, 1) := by decide +kernel
theorem dX5_countSame_9 : decode cX5_countSame 9 = .ok (.getfield 22, 3) := by decide +kernel
theorem dX5_countSame_12 : decode cX5_countSame 12 = .ok (.if_icmp .ge 16, 3) := by decide +kernel
theorem dX5_countSame_15 : decode cX5_countSame 15 = .ok (.aload_n 0, 1) := by decide +kernel
theorem dX5_countSame_16 : decode cX5_countSame 16 = .ok (.aload_n 1, 1) := by decide +kernel
theorem dX5_countSame_17 : decode cX5_countSame 17 = .ok (.iload_n 3, 1) := by decide +kernel
theorem dX5_countSame_18 : decode cX5_countSame 18 = .ok (.invokevirtual 26, 3) := by decide +kernel
theorem dX5_countSame_21 : decode cX5_countSame 21 = .ok (.iload_n 3, 1) := by decide +kernel
theorem dX5_countSame_22 : decode cX5_countSame 22 = .ok (.iconst 2, 1) := by decide +kernel
theorem dX5_countSame_23 : decode cX5_countSame 23 = .ok (.imul, 1) := by decide +kernel
theorem dX5_countSame_24 : decode cX5_countSame 24 = .ok (.istore_n 3, 1) := by decide +kernel
theorem dX5_countSame_25 : decode cX5_countSame 25 = .ok (.goto (-18), 3) := by decide +kernel
theorem dX5_countSame_28 : decode cX5_countSame 28 = .ok (.iconst 0, 1) := by decide +kernel
theorem dX5_countSame_29 : decode cX5_countSame 29 = .ok (.istore_n 3, 1) := by decide +kernel
theorem dX5_countSame_30 : decode cX5_countSame 30 = .ok (.iconst 0, 1) := by decide +kernel
theorem dX5_countSame_31 : decode cX5_countSame 31 = .ok (.istore 4, 2) := by decide +kernel
theorem dX5_countSame_33 : decode cX5_countSame 33 = .ok (.iconst 0, 1) := by decide +kernel
theorem dX5_countSame_34 : decode cX5_countSame 34 = .ok (.istore 5, 2) := by decide +kernel
theorem dX5_countSame_36 : decode cX5_countSame 36 = .ok (.iload 5, 2) := by decide +kernel
theorem dX5_countSame_38 : decode cX5_countSame 38 = .ok (.aload_n 0, 1) := by decide +kernel
theorem dX5_countSame_39 : decode cX5_countSame 39 = .ok (.getfield 22, 3) := by decide +kernel
theorem dX5_countSame_42 : decode cX5_countSame 42 = .ok (.if_icmp .ge 62, 3) := by decide +kernel
theorem dX5_countSame_45 : decode cX5_countSame 45 = .ok (.aload_n 0, 1) := by decide +kernel
theorem dX5_countSame_46 : decode cX5_countSame 46 = .ok (.aload_n 1, 1) := by decide +kernel
theorem dX5_countSame_47 : decode cX5_countSame 47 = .ok (.iload 5, 2) := by decide +kernel
theorem dX5_countSame_49 : decode cX5_countSame 49 = .ok (.invokevirtual 30, 3) := by decide +kernel
theorem dX5_countSame_52 : decode cX5_countSame 52 = .ok (.ifCond .eq 46, 3) := by decide +kernel
theorem dX5_countSame_55 : decode cX5_countSame 55 = .ok (.aload_n 1, 1) := by decide +kernel
theorem dX5_countSame_56 : decode cX5_countSame 56 = .ok (.aload_n 0, 1) := by decide +kernel
theorem dX5_countSame_57 : decode cX5_countSame 57 = .ok (.getfield 9, 3) := by decide +kernel
theorem dX5_countSame_60 : decode cX5_countSame 60 = .ok (.iload 5, 2) := by decide +kernel
theorem dX5_countSame_62 : decode cX5_countSame 62 = .ok (.iaload, 1) := by decide +kernel
theorem dX5_countSame_63 : decode cX5_countSame 63 = .ok (.invokevirtual 34, 3) := by decide +kernel
theorem dX5_countSame_66 : decode cX5_countSame 66 = .ok (.ifCond .ne 32, 3) := by decide +kernel
theorem dX5_countSame_69 : decode cX5_countSame 69 = .ok (.iload 4, 2) := by decide +kernel
theorem dX5_countSame_71 : decode cX5_countSame 71 = .ok (.aload_n 1, 1) := by decide +kernel
theorem dX5_countSame_72 : decode cX5_countSame 72 = .ok (.aload_n 0, 1) := by decide +kernel
theorem dX5_countSame_73 : decode cX5_countSame 73 = .ok (.getfield 9, 3) := by decide +kernel
theorem dX5_countSame_76 : decode cX5_countSame 76 = .ok (.iload 5, 2) := by decide +kernel
theorem dX5_countSame_78 : decode cX5_countSame 78 = .ok (.iaload, 1) := by decide +kernel
theorem dX5_countSame_79 : decode cX5_countSame 79 = .ok (.aload_n 2, 1) := by decide +kernel
theorem dX5_countSame_80 : decode cX5_countSame 80 = .ok (.iload_n 3, 1) := by decide +kernel
theorem dX5_countSame_81 : decode cX5_countSame 81 = .ok (.invokestatic 40, 3) := by decide +kernel
theorem dX5_countSame_84 : decode cX5_countSame 84 = .ok (.ifCond .eq 7, 3) := by decide +kernel
theorem dX5_countSame_87 : decode cX5_countSame 87 = .ok (.iconst 1, 1) := by decide +kernel
theorem dX5_countSame_88 : decode cX5_countSame 88 = .ok (.goto 4, 3) := by decide +kernel
theorem dX5_countSame_91 : decode cX5_countSame 91 = .ok (.iconst 0, 1) := by decide +kernel
theorem dX5_countSame_92 : decode cX5_countSame 92 = .ok (.iadd, 1) := by decide +kernel
theorem dX5_countSame_93 : decode cX5_countSame 93 = .ok (.istore 4, 2) := by decide +kernel
theorem dX5_countSame_95 : decode cX5_countSame 95 = .ok (.iinc 3 1, 3) := by decide +kernel
theorem dX5_countSame_98 : decode cX5_countSame 98 = .ok (.iinc 5 1, 3) := by decide +kernel
theorem dX5_countSame_101 : decode cX5_countSame 101 = .ok (.goto (-65), 3) := by decide +kernel
theorem dX5_countSame_104 : decode cX5_countSame 104 = .ok (.iload 4, 2) := by decide +kernel
theorem dX5_countSame_106 : decode cX5_countSame 106 = .ok (.ireturn, 1) := by decide +kernel
set_option maxRecDepth 20000 in
theorem ggX5_gather_X0_kindOf : GoodIn wsX5_gather wsX0_kindOf := goodIn_r _ [8, 9, 10, 14, 15, 16] (by decide +kernel) (by decide +kernel)
set_option maxRecDepth 20000 in
theorem gX5_gather_X0_kindOf : GoodIn wsX5_gather (wsV RX5 34 RX0 yX0_kindOf wsX0_kindOf) := goodIn_app (goodIn_of _ (by decide +kernel)) ggX5_gather_X0_kindOf
theorem dX5_gather_0 : decode cX5_gather 0 = .ok (.aload_n 0, 1) := by decide +kernel
theorem dX5_gather_1 : decode cX5_gather 1 = .ok (.iconst 0, 1) := by decide +kernel
theorem dX5_gather_2 : decode cX5_gather 2 = .ok (.putfield 22, 3) := by decide +kernel
theorem dX5_gather_5 : decode cX5_gather 5 = .ok (.iconst 0, 1) := by decide +kernel
theorem dX5_gather_6 : decode cX5_gather 6 = .ok (.istore_n 2, 1) := by decide +kernel
theorem dX5_gather_7 : decode cX5_gather 7 = .ok (.iload_n 2, 1) := by decide +kernel
theorem dX5_gather_8 : decode cX5_gather 8 = .ok (.aload_n 1, 1) := by decide +kernel
theorem dX5_gather_9 : decode cX5_gather 9 = .ok (.getfield 44, 3) := by decide +kernel
theorem dX5_gather_12 : decode cX5_gather 12 = .ok (.if_icmp .ge 46, 3) := by decide +kernel
theorem dX5_gather_15 : decode cX5_gather 15 = .ok (.aload_n 1, 1) := by decide +kernel
theorem dX5_gather_16 : decode cX5_gather 16 = .ok (.iload_n 2, 1) := by decide +kernel
theorem dX5_gather_17 : decode cX5_gather 17 = .ok (.invokevirtual 34, 3) := by decide +kernel
theorem dX5_gather_20 : decode cX5_gather 20 = .ok (.ifCond .eq 12, 3) := by decide +kernel
theorem dX5_gather_23 : decode cX5_gather 23 = .ok (.aload_n 1, 1) := by decide +kernel
theorem dX5_gather_24 : decode cX5_gather 24 = .ok (.iload_n 2, 1) := by decide +kernel
theorem dX5_gather_25 : decode cX5_gather 25 = .ok (.invokevirtual 34, 3) := by decide +kernel
theorem dX5_gather_28 : decode cX5_gather 28 = .ok (.iconst 1, 1) := by decide +kernel
theorem dX5_gather_29 : decode cX5_gather 29 = .ok (.if_icmp .ne 23, 3) := by decide +kernel
theorem dX5_gather_32 : decode cX5_gather 32 = .ok (.aload_n 0, 1) := by decide +kernel
theorem dX5_gather_33 : decode cX5_gather 33 = .ok (.getfield 9, 3) := by decide +kernel
theorem dX5_gather_36 : decode cX5_gather 36 = .ok (.aload_n 0, 1) := by decide +kernel
theorem dX5_gather_37 : decode cX5_gather 37 = .ok (.getfield 22, 3) := by decide +kernel
theorem dX5_gather_40 : decode cX5_gather 40 = .ok (.iload_n 2, 1) := by decide +kernel
theorem dX5_gather_41 : decode cX5_gather 41 = .ok (.iastore, 1) := by decide +kernel
theorem dX5_gather_42 : decode cX5_gather 42 = .ok (.aload_n 0, 1) := by decide +kernel
theorem dX5_gather_43 : decode cX5_gather 43 = .ok (.dup, 1) := by decide +kernel
theorem dX5_gather_44 : decode cX5_gather 44 = .ok (.getfield 22, 3) := by decide +kernel
theorem dX5_gather_47 : decode cX5_gather 47 = .ok (.iconst 1, 1) := by decide +kernel
theorem dX5_gather_48 : decode cX5_gather 48 = .ok (.iadd, 1) := by decide +kernel
theorem dX5_gather_49 : decode cX5_gather 49 = .ok (.putfield 22, 3) := by decide +kernel
theorem dX5_gather_52 : decode cX5_gather 52 = .ok (.iinc 2 1, 3) := by decide +kernel
theorem dX5_gather_55 : decode cX5_gather 55 = .ok (.goto (-48), 3) := by decide +kernel
theorem dX5_gather_58 : decode cX5_gather 58 = .ok (.return_, 1) := by decide +kernel
set_option maxRecDepth 20000 in
theorem ggX5_mergeAll_X5_merge : GoodIn wsX5_mergeAll wsX5_merge := goodIn_r _ [12, 7, 6, 13, 14, 15, 16, 17, 18, 19, 20, 21, 22, 23, 24, 25] (by decide +kernel) (by decide +kernel)
set_option maxRecDepth 20000 in
theorem gX5_mergeAll_X5_merge : GoodIn wsX5_mergeAll (wsV RX5 53 RX5 yX5_merge wsX5_merge) := goodIn_app (goodIn_of _ (by decide +kernel)) ggX5_mergeAll_X5_merge
theorem dX5_mergeAll_0 : decode cX5_mergeAll 0 = .ok (.iconst 0, 1) := by decide +kernel
theorem dX5_mergeAll_1 : decode cX5_mergeAll 1 = .ok (.istore_n 3, 1) := by decide +kernel
theorem dX5_mergeAll_2 : decode cX5_mergeAll 2 = .ok (.iload_n 3, 1) := by decide +kernel
theorem dX5_mergeAll_3 : decode cX5_mergeAll 3 = .ok (.aload_n 0, 1) := by decide +kernel
theorem dX5_mergeAll_4 : decode cX5_mergeAll 4 = .ok (.getfield 22, 3) := by decide +kernel
theorem dX5_mergeAll_7 : decode cX5_mergeAll 7 = .ok (.if_icmp .ge 43, 3) := by decide +kernel
theorem dX5_mergeAll_10 : decode cX5_mergeAll 10 = .ok (.iload_n 3, 1) := by decide +kernel
theorem dX5_mergeAll_11 : decode cX5_mergeAll 11 = .ok (.iload_n 2, 1) := by decide +kernel
theorem dX5_mergeAll_12 : decode cX5_mergeAll 12 = .ok (.iadd, 1) := by decide +kernel
theorem dX5_mergeAll_13 : decode cX5_mergeAll 13 = .ok (.aload_n 0, 1) := by decide +kernel
theorem dX5_mergeAll_14 : decode cX5_mergeAll 14 = .ok (.getfield 22, 3) := by decide +kernel
theorem dX5_mergeAll_17 : decode cX5_mergeAll 17 = .ok (.invokestatic 47, 3) := by decide +kernel
theorem dX5_mergeAll_20 : decode cX5_mergeAll 20 = .ok (.istore 4, 2) := by decide +kernel
theorem dX5_mergeAll_22 : decode cX5_mergeAll 22 = .ok (.aload_n 0, 1) := by decide +kernel
theorem dX5_mergeAll_23 : decode cX5_mergeAll 23 = .ok (.aload_n 1, 1) := by decide +kernel
theorem dX5_mergeAll_24 : decode cX5_mergeAll 24 = .ok (.iload_n 3, 1) := by decide +kernel
theorem dX5_mergeAll_25 : decode cX5_mergeAll 25 = .ok (.iload 4, 2) := by decide +kernel
theorem dX5_mergeAll_27 : decode cX5_mergeAll 27 = .ok (.iload 4, 2) := by decide +kernel
theorem dX5_mergeAll_29 : decode cX5_mergeAll 29 = .ok (.iload_n 2, 1) := by decide +kernel
theorem dX5_mergeAll_30 : decode cX5_mergeAll 30 = .ok (.iadd, 1) := by decide +kernel
theorem dX5_mergeAll_31 : decode cX5_mergeAll 31 = .ok (.aload_n 0, 1) := by decide +kernel
theorem dX5_mergeAll_32 : decode cX5_mergeAll 32 = .ok (.getfield 22, 3) := by decide +kernel
theorem dX5_mergeAll_35 : decode cX5_mergeAll 35 = .ok (.invokestatic 47, 3) := by decide +kernel
theorem dX5_mergeAll_38 : decode cX5_mergeAll 38 = .ok (.invokevirtual 53, 3) := by decide +kernel
theorem dX5_mergeAll_41 : decode cX5_mergeAll 41 = .ok (.iload_n 3, 1) := by decide +kernel
theorem dX5_mergeAll_42 : decode cX5_mergeAll 42 = .ok (.iconst 2, 1) := by decide +kernel
theorem dX5_mergeAll_43 : decode cX5_mergeAll 43 = .ok (.iload_n 2, 1) := by decide +kernel
theorem dX5_mergeAll_44 : decode cX5_mergeAll 44 = .ok (.imul, 1) := by decide +kernel
theorem dX5_mergeAll_45 : decode cX5_mergeAll 45 = .ok (.iadd, 1) := by decide +kernel
theorem dX5_mergeAll_46 : decode cX5_mergeAll 46 = .ok (.istore_n 3, 1) := by decide +kernel
theorem dX5_mergeAll_47 : decode cX5_mergeAll 47 = .ok (.goto (-45), 3) := by decide +kernel
theorem dX5_mergeAll_50 : decode cX5_mergeAll 50 = .ok (.aload_n 0, 1) := by decide +kernel
theorem dX5_mergeAll_51 : decode cX5_mergeAll 51 = .ok (.getfield 15, 3) := by decide +kernel
theorem dX5_mergeAll_54 : decode cX5_mergeAll 54 = .ok (.astore_n 3, 1) := by decide +kernel
theorem dX5_mergeAll_55 : decode cX5_mergeAll 55 = .ok (.aload_n 0, 1) := by decide +kernel
theorem dX5_mergeAll_56 : decode cX5_mergeAll 56 = .ok (.aload_n 0, 1) := by decide +kernel
theorem dX5_mergeAll_57 : decode cX5_mergeAll 57 = .ok (.getfield 9, 3) := by decide +kernel
theorem dX5_mergeAll_60 : decode cX5_mergeAll 60 = .ok (.putfield 15, 3) := by decide +kernel
theorem dX5_mergeAll_63 : decode cX5_mergeAll 63 = .ok (.aload_n 0, 1) := by decide +kernel
theorem dX5_mergeAll_64 : decode cX5_mergeAll 64 = .ok (.aload_n 3, 1) := by decide +kernel
theorem dX5_mergeAll_65 : decode cX5_mergeAll 65 = .ok (.putfield 9, 3) := by decide +kernel
theorem dX5_mergeAll_68 : decode cX5_mergeAll 68 = .ok (.return_, 1) := by decide +kernel
set_option maxRecDepth 20000 in
theorem ggX5_merge_X0_targetOf : GoodIn wsX5_merge wsX0_targetOf := goodIn_r _ [7, 8, 9, 13, 14, 15] (by decide +kernel) (by decide +kernel)
set_option maxRecDepth 20000 in
theorem gX5_merge_X0_targetOf : GoodIn wsX5_merge (wsV RX5 57 RX0 yX0_targetOf wsX0_targetOf) := goodIn_app (goodIn_of _ (by decide +kernel)) ggX5_merge_X0_targetOf
theorem dX5_merge_0 : decode cX5_merge 0 = .ok (.iload_n 2, 1) := by decide +kernel
theorem dX5_merge_1 : decode cX5_merge 1 = .ok (.istore 5, 2) := by decide +kernel
theorem dX5_merge_3 : decode cX5_merge 3 = .ok (.iload_n 3, 1) := by decide +kernel
theorem dX5_merge_4 : decode cX5_merge 4 = .ok (.istore 6, 2) := by decide +kernel
theorem dX5_merge_6 : decode cX5_merge 6 = .ok (.iload_n 2, 1) := by decide +kernel
theorem dX5_merge_7 : decode cX5_merge 7 = .ok (.istore 7, 2) := by decide +kernel
theorem dX5_merge_9 : decode cX5_merge 9 = .ok (.iload 7, 2) := by decide +kernel
theorem dX5_merge_11 : decode cX5_merge 11 = .ok (.iload 4, 2) := by decide +kernel
theorem dX5_merge_13 : decode cX5_merge 13 = .ok (.if_icmp .ge 113, 3) := by decide +kernel
theorem dX5_merge_16 : decode cX5_merge 16 = .ok (.iload 6, 2) := by decide +kernel
theorem dX5_merge_18 : decode cX5_merge 18 = .ok (.iload 4, 2) := by decide +kernel
theorem dX5_merge_20 : decode cX5_merge 20 = .ok (.if_icmp .ge 34, 3) := by decide +kernel
theorem dX5_merge_23 : decode cX5_merge 23 = .ok (.iload 5, 2) := by decide +kernel
theorem dX5_merge_25 : decode cX5_merge 25 = .ok (.iload_n 3, 1) := by decide +kernel
theorem dX5_merge_26 : decode cX5_merge 26 = .ok (.if_icmp .ge 32, 3) := by decide +kernel
theorem dX5_merge_29 : decode cX5_merge 29 = .ok (.aload_n 1, 1) := by decide +kernel
theorem dX5_merge_30 : decode cX5_merge 30 = .ok (.aload_n 0, 1) := by decide +kernel
theorem dX5_merge_31 : decode cX5_merge 31 = .ok (.getfield 9, 3) := by decide +kernel
theorem dX5_merge_34 : decode cX5_merge 34 = .ok (.iload 5, 2) := by decide +kernel
theorem dX5_merge_36 : decode cX5_merge 36 = .ok (.iaload, 1) := by decide +kernel
theorem dX5_merge_37 : decode cX5_merge 37 = .ok (.invokevirtual 57, 3) := by decide +kernel
theorem dX5_merge_40 : decode cX5_merge 40 = .ok (.aload_n 1, 1) := by decide +kernel
theorem dX5_merge_41 : decode cX5_merge 41 = .ok (.aload_n 0, 1) := by decide +kernel
theorem dX5_merge_42 : decode cX5_merge 42 = .ok (.getfield 9, 3) := by decide +kernel
theorem dX5_merge_45 : decode cX5_merge 45 = .ok (.iload 6, 2) := by decide +kernel
theorem dX5_merge_47 : decode cX5_merge 47 = .ok (.iaload, 1) := by decide +kernel
theorem dX5_merge_48 : decode cX5_merge 48 = .ok (.invokevirtual 57, 3) := by decide +kernel
theorem dX5_merge_51 : decode cX5_merge 51 = .ok (.if_icmp .gt 7, 3) := by decide +kernel
theorem dX5_merge_54 : decode cX5_merge 54 = .ok (.iconst 1, 1) := by decide +kernel
theorem dX5_merge_55 : decode cX5_merge 55 = .ok (.goto 4, 3) := by decide +kernel
theorem dX5_merge_58 : decode cX5_merge 58 = .ok (.iconst 0, 1) := by decide +kernel
theorem dX5_merge_59 : decode cX5_merge 59 = .ok (.istore 8, 2) := by decide +kernel
theorem dX5_merge_61 : decode cX5_merge 61 = .ok (.aload_n 0, 1) := by decide +kernel
theorem dX5_merge_62 : decode cX5_merge 62 = .ok (.getfield 15, 3) := by decide +kernel
theorem dX5_merge_65 : decode cX5_merge 65 = .ok (.iload 7, 2) := by decide +kernel
theorem dX5_merge_67 : decode cX5_merge 67 = .ok (.iload 8, 2) := by decide +kernel
theorem dX5_merge_69 : decode cX5_merge 69 = .ok (.ifCond .eq 13, 3) := by decide +kernel
theorem dX5_merge_72 : decode cX5_merge 72 = .ok (.aload_n 0, 1) := by decide +kernel
theorem dX5_merge_73 : decode cX5_merge 73 = .ok (.getfield 9, 3) := by decide +kernel
theorem dX5_merge_76 : decode cX5_merge 76 = .ok (.iload 5, 2) := by decide +kernel
theorem dX5_merge_78 : decode cX5_merge 78 = .ok (.iaload, 1) := by decide +kernel
theorem dX5_merge_79 : decode cX5_merge 79 = .ok (.goto 10, 3) := by decide +kernel
theorem dX5_merge_82 : decode cX5_merge 82 = .ok (.aload_n 0, 1) := by decide +kernel
theorem dX5_merge_83 : decode cX5_merge 83 = .ok (.getfield 9, 3) := by decide +kernel
theorem dX5_merge_86 : decode cX5_merge 86 = .ok (.iload 6, 2) := by decide +kernel
theorem dX5_merge_88 : decode cX5_merge 88 = .ok (.iaload, 1) := by decide +kernel
theorem dX5_merge_89 : decode cX5_merge 89 = .ok (.iastore, 1) := by decide +kernel
theorem dX5_merge_90 : decode cX5_merge 90 = .ok (.iload 5, 2) := by decide +kernel
theorem dX5_merge_92 : decode cX5_merge 92 = .ok (.iload 8, 2) := by decide +kernel
theorem dX5_merge_94 : decode cX5_merge 94 = .ok (.ifCond .eq 7, 3) := by decide +kernel
theorem dX5_merge_97 : decode cX5_merge 97 = .ok (.iconst 1, 1) := by decide +kernel
theorem dX5_merge_98 : decode cX5_merge 98 = .ok (.goto 4, 3) := by decide +kernel
theorem dX5_merge_101 : decode cX5_merge 101 = .ok (.iconst 0, 1) := by decide +kernel
theorem dX5_merge_102 : decode cX5_merge 102 = .ok (.iadd, 1) := by decide +kernel
theorem dX5_merge_103 : decode cX5_merge 103 = .ok (.istore 5, 2) := by decide +kernel
theorem dX5_merge_105 : decode cX5_merge 105 = .ok (.iload 6, 2) := by decide +kernel
theorem dX5_merge_107 : decode cX5_merge 107 = .ok (.iload 8, 2) := by decide +kernel
theorem dX5_merge_109 : decode cX5_merge 109 = .ok (.ifCond .eq 7, 3) := by decide +kernel
theorem dX5_merge_112 : decode cX5_merge 112 = .ok (.iconst 0, 1) := by decide +kernel
theorem dX5_merge_113 : decode cX5_merge 113 = .ok (.goto 4, 3) := by decide +kernel
theorem dX5_merge_116 : decode cX5_merge 116 = .ok (.iconst 1, 1) := by decide +kernel
theorem dX5_merge_117 : decode cX5_merge 117 = .ok (.iadd, 1) := by decide +kernel
theorem dX5_merge_118 : decode cX5_merge 118 = .ok (.istore 6, 2) := by decide +kernel
theorem dX5_merge_120 : decode cX5_merge 120 = .ok (.iinc 7 1, 3) := by decide +kernel
theorem dX5_merge_123 : decode cX5_merge 123 = .ok (.goto (-114), 3) := by decide +kernel
theorem dX5_merge_126 : decode cX5_merge 126 = .ok (.return_, 1) := by decide +kernel
set_option maxRecDepth 20000 in
theorem ggX5_isLatest_X0_targetOf : GoodIn wsX5_isLatest wsX0_targetOf := goodIn_r _ [7, 8, 9, 13, 14, 15] (by decide +kernel) (by decide +kernel)
set_option maxRecDepth 20000 in
theorem gX5_isLatest_X0_targetOf : GoodIn wsX5_isLatest (wsV RX5 57 RX0 yX0_targetOf wsX0_targetOf) := goodIn_app (goodIn_of _ (by decide +kernel)) ggX5_isLatest_X0_targetOf
theorem dX5_isLatest_0 : decode cX5_isLatest 0 = .ok (.iload_n 2, 1) := by decide +kernel
theorem dX5_isLatest_1 : decode cX5_isLatest 1 = .ok (.iconst 1, 1) := by decide +kernel
theorem dX5_isLatest_2 : decode cX5_isLatest 2 = .ok (.iadd, 1) := by decide +kernel
theorem dX5_isLatest_3 : decode cX5_isLatest 3 = .ok (.aload_n 0, 1) := by decide +kernel
theorem dX5_isLatest_4 : decode cX5_isLatest 4 = .ok (.getfield 22, 3) := by decide +kernel
theorem dX5_isLatest_7 : decode cX5_isLatest 7 = .ok (.if_icmp .ge 28, 3) := by decide +kernel
theorem dX5_isLatest_10 : decode cX5_isLatest 10 = .ok (.aload_n 1, 1) := by decide +kernel
theorem dX5_isLatest_11 : decode cX5_isLatest 11 = .ok (.aload_n 0, 1) := by decide +kernel
theorem dX5_isLatest_12 : decode cX5_isLatest 12 = .ok (.getfield 9, 3) := by decide +kernel
theorem dX5_isLatest_15 : decode cX5_isLatest 15 = .ok (.iload_n 2, 1) := by decide +kernel
theorem dX5_isLatest_16 : decode cX5_isLatest 16 = .ok (.iconst 1, 1) := by decide +kernel
theorem dX5_isLatest_17 : decode cX5_isLatest 17 = .ok (.iadd, 1) := by decide +kernel
theorem dX5_isLatest_18 : decode cX5_isLatest 18 = .ok (.iaload, 1) := by decide +kernel
theorem dX5_isLatest_19 : decode cX5_isLatest 19 = .ok (.invokevirtual 57, 3) := by decide +kernel
theorem dX5_isLatest_22 : decode cX5_isLatest 22 = .ok (.aload_n 1, 1) := by decide +kernel
theorem dX5_isLatest_23 : decode cX5_isLatest 23 = .ok (.aload_n 0, 1) := by decide +kernel
theorem dX5_isLatest_24 : decode cX5_isLatest 24 = .ok (.getfield 9, 3) := by decide +kernel
theorem dX5_isLatest_27 : decode cX5_isLatest 27 = .ok (.iload_n 2, 1) := by decide +kernel
theorem dX5_isLatest_28 : decode cX5_isLatest 28 = .ok (.iaload, 1) := by decide +kernel
theorem dX5_isLatest_29 : decode cX5_isLatest 29 = .ok (.invokevirtual 57, 3) := by decide +kernel
theorem dX5_isLatest_32 : decode cX5_isLatest 32 = .ok (.if_icmp .eq 7, 3) := by decide +kernel
theorem dX5_isLatest_35 : decode cX5_isLatest 35 = .ok (.iconst 1, 1) := by decide +kernel
theorem dX5_isLatest_36 : decode cX5_isLatest 36 = .ok (.goto 4, 3) := by decide +kernel
theorem dX5_isLatest_39 : decode cX5_isLatest 39 = .ok (.iconst 0, 1) := by decide +kernel
theorem dX5_isLatest_40 : decode cX5_isLatest 40 = .ok (.ireturn, 1) := by decide +kernel
set_option maxRecDepth 20000 in
theorem ggX5_isSame_X0_targetOf : GoodIn wsX5_isSame wsX0_targetOf := goodIn_r _ [9, 10, 11, 15, 16, 17] (by decide +kernel) (by decide +kernel)
set_option maxRecDepth 20000 in
theorem gX5_isSame_X0_targetOf : GoodIn wsX5_isSame (wsV RX5 57 RX0 yX0_targetOf wsX0_targetOf) := goodIn_app (goodIn_of _ (by decide +kernel)) ggX5_isSame_X0_targetOf
theorem dX5_isSame_0 : decode cX5_isSame 0 = .ok (.iload_n 3, 1) := by decide +kernel
theorem dX5_isSame_1 : decode cX5_isSame 1 = .ok (.aload_n 2, 1) := by decide +kernel
theorem dX5_isSame_2 : decode cX5_isSame 2 = .ok (.getfield 60, 3) := by decide +kernel
theorem dX5_isSame_5 : decode cX5_isSame 5 = .ok (.if_icmp .ge 37, 3) := by decide +kernel
theorem dX5_isSame_8 : decode cX5_isSame 8 = .ok (.aload_n 2, 1) := by decide +kernel
theorem dX5_isSame_9 : decode cX5_isSame 9 = .ok (.getfield 65, 3) := by decide +kernel
theorem dX5_isSame_12 : decode cX5_isSame 12 = .ok (.iload_n 3, 1) := by decide +kernel
theorem dX5_isSame_13 : decode cX5_isSame 13 = .ok (.iaload, 1) := by decide +kernel
theorem dX5_isSame_14 : decode cX5_isSame 14 = .ok (.aload_n 0, 1) := by decide +kernel
theorem dX5_isSame_15 : decode cX5_isSame 15 = .ok (.iload_n 1, 1) := by decide +kernel
theorem dX5_isSame_16 : decode cX5_isSame 16 = .ok (.invokevirtual 57, 3) := by decide +kernel
theorem dX5_isSame_19 : decode cX5_isSame 19 = .ok (.if_icmp .ne 23, 3) := by decide +kernel
theorem dX5_isSame_22 : decode cX5_isSame 22 = .ok (.aload_n 2, 1) := by decide +kernel
theorem dX5_isSame_23 : decode cX5_isSame 23 = .ok (.getfield 68, 3) := by decide +kernel
theorem dX5_isSame_26 : decode cX5_isSame 26 = .ok (.iload_n 3, 1) := by decide +kernel
theorem dX5_isSame_27 : decode cX5_isSame 27 = .ok (.laload, 1) := by decide +kernel
theorem dX5_isSame_28 : decode cX5_isSame 28 = .ok (.aload_n 0, 1) := by decide +kernel
theorem dX5_isSame_29 : decode cX5_isSame 29 = .ok (.getfield 72, 3) := by decide +kernel
theorem dX5_isSame_32 : decode cX5_isSame 32 = .ok (.iload_n 1, 1) := by decide +kernel
theorem dX5_isSame_33 : decode cX5_isSame 33 = .ok (.laload, 1) := by decide +kernel
theorem dX5_isSame_34 : decode cX5_isSame 34 = .ok (.lcmp, 1) := by decide +kernel
theorem dX5_isSame_35 : decode cX5_isSame 35 = .ok (.ifCond .ne 7, 3) := by decide +kernel
theorem dX5_isSame_38 : decode cX5_isSame 38 = .ok (.iconst 1, 1) := by decide +kernel
theorem dX5_isSame_39 : decode cX5_isSame 39 = .ok (.goto 4, 3) := by decide +kernel
theorem dX5_isSame_42 : decode cX5_isSame 42 = .ok (.iconst 0, 1) := by decide +kernel
theorem dX5_isSame_43 : decode cX5_isSame 43 = .ok (.ireturn, 1) := by decide +kernel
theorem dX6_init_0 : decode cX6_init 0 = .ok (.aload_n 0, 1) := by decide +kernel
theorem dX6_init_1 : decode cX6_init 1 = .ok (.invokespecial 3, 3) := by decide +kernel
theorem dX6_init_4 : decode cX6_init 4 = .ok (.aload_n 0, 1) := by decide +kernel
theorem dX6_init_5 : decode cX6_init 5 = .ok (.bipush 30, 2) := by decide +kernel
theorem dX6_init_7 : decode cX6_init 7 = .ok (.newarray .long, 2) := by decide +kernel
theorem dX6_init_9 : decode cX6_init 9 = .ok (.putfield 9, 3) := by decide +kernel
theorem dX6_init_12 : decode cX6_init 12 = .ok (.return_, 1) := by decide +kernel
set_option maxRecDepth 20000 in
theorem ggX6_countSame_X6_forgetAll : GoodIn wsX6_countSame wsX6_forgetAll := goodIn_r _ [8, 9, 32] (by decide +kernel) (by decide +kernel)
set_option maxRecDepth 20000 in
theorem gX6_countSame_X6_forgetAll : GoodIn wsX6_countSame (wsV RX6 15 RX6 yX6_forgetAll wsX6_forgetAll) := goodIn_app (goodIn_of _ (by decide +kernel)) ggX6_countSame_X6_forgetAll
set_option maxRecDepth 20000 in
theorem ggX6_countSame_X0_kindOf : GoodIn wsX6_countSame wsX0_kindOf := goodIn_r _ [14, 15, 16, 28, 29, 30] (by decide +kernel) (by decide +kernel)
set_option maxRecDepth 20000 in
theorem gX6_countSame_X0_kindOf : GoodIn wsX6_countSame (wsV RX6 24 RX0 yX0_kindOf wsX0_kindOf) := goodIn_app (goodIn_of _ (by decide +kernel)) ggX6_countSame_X0_kindOf
set_option maxRecDepth 20000 in
theorem ggX6_countSame_X0_targetOf : GoodIn wsX6_countSame wsX0_targetOf := goodIn_r _ [20, 15, 16, 28, 29, 30] (by decide +kernel) (by decide +kernel)
set_option maxRecDepth 20000 in
theorem gX6_countSame_X0_targetOf : GoodIn wsX6_countSame (wsV RX6 28 RX0 yX0_targetOf wsX0_targetOf) := goodIn_app (goodIn_of _ (by decide +kernel)) ggX6_countSame_X0_targetOf
set_option maxRecDepth 20000 in
theorem ggX6_countSame_X10_placeIndex : GoodIn wsX6_countSame wsX10_placeIndex := goodIn_r _ [23] (by decide +kernel) (by decide +kernel)
set_option maxRecDepth 20000 in
theorem gX6_countSame_X10_placeIndex_n31 : GoodIn wsX6_countSame (wsX10_placeIndex) := ggX6_countSame_X10_placeIndex
set_option maxRecDepth 20000 in
theorem ggX6_countSame_X6_meets : GoodIn wsX6_countSame wsX6_meets := goodIn_r _ [27, 9, 32] (by decide +kernel) (by decide +kernel)
set_option maxRecDepth 20000 in
theorem gX6_countSame_X6_meets : GoodIn wsX6_countSame (wsV RX6 34 RX6 yX6_meets wsX6_meets) := goodIn_app (goodIn_of _ (by decide +kernel)) ggX6_countSame_X6_meets
theorem dX6_countSame_0 : decode cX6_countSame 0 = .ok (.aload_n 0, 1) := by decide +kernel
theorem dX6_countSame_1 : decode cX6_countSame 1 = .ok (.invokevirtual 15, 3) := by decide +kernel
theorem dX6_countSame_4 : decode cX6_countSame 4 = .ok (.iconst 0, 1) := by decide +kernel
theorem dX6_countSame_5 : decode cX6_countSame 5 = .ok (.istore_n 3, 1) := by decide +kernel
theorem dX6_countSame_6 : decode cX6_countSame 6 = .ok (.aload_n 1, 1) := by decide +kernel
theorem dX6_countSame_7 : decode cX6_countSame 7 = .ok (.getfield 18, 3) := by decide +kernel
theorem dX6_countSame_10 : decode cX6_countSame 10 = .ok (.iconst 1, 1) := by decide +kernel
theorem dX6_countSame_11 : decode cX6_countSame 11 = .ok (.isub, 1) := by decide +kernel
theorem dX6_countSame_12 : decode cX6_countSame 12 = .ok (.istore 4, 2) := by decide +kernel
theorem dX6_countSame_14 : decode cX6_countSame 14 = .ok (.iload 4, 2) := by decide +kernel
theorem dX6_countSame_16 : decode cX6_countSame 16 = .ok (.ifCond .lt 66, 3) := by decide +kernel
theorem dX6_countSame_19 : decode cX6_countSame 19 = .ok (.aload_n 1, 1) := by decide +kernel
theorem dX6_countSame_20 : decode cX6_countSame 20 = .ok (.iload 4, 2) := by decide +kernel
theorem dX6_countSame_22 : decode cX6_countSame 22 = .ok (.invokevirtual 24, 3) := by decide +kernel
theorem dX6_countSame_25 : decode cX6_countSame 25 = .ok (.iconst 4, 1) := by decide +kernel
theorem dX6_countSame_26 : decode cX6_countSame 26 = .ok (.if_icmp .ne 50, 3) := by decide +kernel
theorem dX6_countSame_29 : decode cX6_countSame 29 = .ok (.aload_n 1, 1) := by decide +kernel
theorem dX6_countSame_30 : decode cX6_countSame 30 = .ok (.iload 4, 2) := by decide +kernel
theorem dX6_countSame_32 : decode cX6_countSame 32 = .ok (.invokevirtual 28, 3) := by decide +kernel
theorem dX6_countSame_35 : decode cX6_countSame 35 = .ok (.invokestatic 31, 3) := by decide +kernel
theorem dX6_countSame_38 : decode cX6_countSame 38 = .ok (.istore 5, 2) := by decide +kernel
theorem dX6_countSame_40 : decode cX6_countSame 40 = .ok (.iload_n 3, 1) := by decide +kernel
theorem dX6_countSame_41 : decode cX6_countSame 41 = .ok (.aload_n 0, 1) := by decide +kernel
theorem dX6_countSame_42 : decode cX6_countSame 42 = .ok (.iload 5, 2) := by decide +kernel
theorem dX6_countSame_44 : decode cX6_countSame 44 = .ok (.invokevirtual 34, 3) := by decide +kernel
theorem dX6_countSame_47 : decode cX6_countSame 47 = .ok (.ifCond .eq 26, 3) := by decide +kernel
theorem dX6_countSame_50 : decode cX6_countSame 50 = .ok (.aload_n 2, 1) := by decide +kernel
theorem dX6_countSame_51 : decode cX6_countSame 51 = .ok (.getfield 38, 3) := by decide +kernel
theorem dX6_countSame_54 : decode cX6_countSame 54 = .ok (.iload 5, 2) := by decide +kernel
theorem dX6_countSame_56 : decode cX6_countSame 56 = .ok (.baload, 1) := by decide +kernel
theorem dX6_countSame_57 : decode cX6_countSame 57 = .ok (.i2l, 1) := by decide +kernel
theorem dX6_countSame_58 : decode cX6_countSame 58 = .ok (.aload_n 1, 1) := by decide +kernel
theorem dX6_countSame_59 : decode cX6_countSame 59 = .ok (.getfield 44, 3) := by decide +kernel
theorem dX6_countSame_62 : decode cX6_countSame 62 = .ok (.iload 4, 2) := by decide +kernel
theorem dX6_countSame_64 : decode cX6_countSame 64 = .ok (.laload, 1) := by decide +kernel
theorem dX6_countSame_65 : decode cX6_countSame 65 = .ok (.lcmp, 1) := by decide +kernel
theorem dX6_countSame_66 : decode cX6_countSame 66 = .ok (.ifCond .ne 7, 3) := by decide +kernel
theorem dX6_countSame_69 : decode cX6_countSame 69 = .ok (.iconst 1, 1) := by decide +kernel
theorem dX6_countSame_70 : decode cX6_countSame 70 = .ok (.goto 4, 3) := by decide +kernel
theorem dX6_countSame_73 : decode cX6_countSame 73 = .ok (.iconst 0, 1) := by decide +kernel
theorem dX6_countSame_74 : decode cX6_countSame 74 = .ok (.iadd, 1) := by decide +kernel
theorem dX6_countSame_75 : decode cX6_countSame 75 = .ok (.istore_n 3, 1) := by decide +kernel
theorem dX6_countSame_76 : decode cX6_countSame 76 = .ok (.iinc 4 (-1), 3) := by decide +kernel
theorem dX6_countSame_79 : decode cX6_countSame 79 = .ok (.goto (-65), 3) := by decide +kernel
theorem dX6_countSame_82 : decode cX6_countSame 82 = .ok (.iload_n 3, 1) := by decide +kernel
theorem dX6_countSame_83 : decode cX6_countSame 83 = .ok (.ireturn, 1) := by decide +kernel
theorem dX6_forgetAll_0 : decode cX6_forgetAll 0 = .ok (.iconst 0, 1) := by decide +kernel
theorem dX6_forgetAll_1 : decode cX6_forgetAll 1 = .ok (.istore_n 1, 1) := by decide +kernel
theorem dX6_forgetAll_2 : decode cX6_forgetAll 2 = .ok (.iload_n 1, 1) := by decide +kernel
theorem dX6_forgetAll_3 : decode cX6_forgetAll 3 = .ok (.aload_n 0, 1) := by decide +kernel
theorem dX6_forgetAll_4 : decode cX6_forgetAll 4 = .ok (.getfield 9, 3) := by decide +kernel
theorem dX6_forgetAll_7 : decode cX6_forgetAll 7 = .ok (.arraylength, 1) := by decide +kernel
theorem dX6_forgetAll_8 : decode cX6_forgetAll 8 = .ok (.if_icmp .ge 16, 3) := by decide +kernel
theorem dX6_forgetAll_11 : decode cX6_forgetAll 11 = .ok (.aload_n 0, 1) := by decide +kernel
theorem dX6_forgetAll_12 : decode cX6_forgetAll 12 = .ok (.getfield 9, 3) := by decide +kernel
theorem dX6_forgetAll_15 : decode cX6_forgetAll 15 = .ok (.iload_n 1, 1) := by decide +kernel
theorem dX6_forgetAll_16 : decode cX6_forgetAll 16 = .ok (.lconst 0, 1) := by decide +kernel
theorem dX6_forgetAll_17 : decode cX6_forgetAll 17 = .ok (.lastore, 1) := by decide +kernel
theorem dX6_forgetAll_18 : decode cX6_forgetAll 18 = .ok (.iinc 1 1, 3) := by decide +kernel
theorem dX6_forgetAll_21 : decode cX6_forgetAll 21 = .ok (.goto (-19), 3) := by decide +kernel
theorem dX6_forgetAll_24 : decode cX6_forgetAll 24 = .ok (.return_, 1) := by decide +kernel
theorem dX6_meets_0 : decode cX6_meets 0 = .ok (.lconst 1, 1) := by decide +kernel
theorem dX6_meets_1 : decode cX6_meets 1 = .ok (.iload_n 1, 1) := by decide +kernel
theorem dX6_meets_2 : decode cX6_meets 2 = .ok (.bipush 64, 2) := by decide +kernel
theorem dX6_meets_4 : decode cX6_meets 4 = .ok (.irem, 1) := by decide +kernel
theorem dX6_meets_5 : decode cX6_meets 5 = .ok (.lshl, 1) := by decide +kernel
theorem dX6_meets_6 : decode cX6_meets 6 = .ok (.lstore_n 2, 1) := by decide +kernel
theorem dX6_meets_7 : decode cX6_meets 7 = .ok (.aload_n 0, 1) := by decide +kernel
theorem dX6_meets_8 : decode cX6_meets 8 = .ok (.getfield 9, 3) := by decide +kernel
theorem dX6_meets_11 : decode cX6_meets 11 = .ok (.iload_n 1, 1) := by decide +kernel
theorem dX6_meets_12 : decode cX6_meets 12 = .ok (.bipush 64, 2) := by decide +kernel
theorem dX6_meets_14 : decode cX6_meets 14 = .ok (.idiv, 1) := by decide +kernel
theorem dX6_meets_15 : decode cX6_meets 15 = .ok (.laload, 1) := by decide +kernel
theorem dX6_meets_16 : decode cX6_meets 16 = .ok (.lload_n 2, 1) := by decide +kernel
theorem dX6_meets_17 : decode cX6_meets 17 = .ok (.land, 1) := by decide +kernel
theorem dX6_meets_18 : decode cX6_meets 18 = .ok (.lconst 0, 1) := by decide +kernel
theorem dX6_meets_19 : decode cX6_meets 19 = .ok (.lcmp, 1) := by decide +kernel
theorem dX6_meets_20 : decode cX6_meets 20 = .ok (.ifCond .ne 7, 3) := by decide +kernel
theorem dX6_meets_23 : decode cX6_meets 23 = .ok (.iconst 1, 1) := by decide +kernel
theorem dX6_meets_24 : decode cX6_meets 24 = .ok (.goto 4, 3) := by decide +kernel
theorem dX6_meets_27 : decode cX6_meets 27 = .ok (.iconst 0, 1) := by decide +kernel
theorem dX6_meets_28 : decode cX6_meets 28 = .ok (.istore 4, 2) := by decide +kernel
theorem dX6_meets_30 : decode cX6_meets 30 = .ok (.aload_n 0, 1) := by decide +kernel
theorem dX6_meets_31 : decode cX6_meets 31 = .ok (.getfield 9, 3) := by decide +kernel
theorem dX6_meets_34 : decode cX6_meets 34 = .ok (.iload_n 1, 1) := by decide +kernel
theorem dX6_meets_35 : decode cX6_meets 35 = .ok (.bipush 64, 2) := by decide +kernel
theorem dX6_meets_37 : decode cX6_meets 37 = .ok (.idiv, 1) := by decide +kernel
theorem dX6_meets_38 : decode cX6_meets 38 = .ok (.dup2, 1) := by decide +kernel
theorem dX6_meets_39 : decode cX6_meets 39 = .ok (.laload, 1) := by decide +kernel
theorem dX6_meets_40 : decode cX6_meets 40 = .ok (.lload_n 2, 1) := by decide +kernel
theorem dX6_meets_41 : decode cX6_meets 41 = .ok (.lor, 1) := by decide +kernel
theorem dX6_meets_42 : decode cX6_meets 42 = .ok (.lastore, 1) := by decide +kernel
theorem dX6_meets_43 : decode cX6_meets 43 = .ok (.iload 4, 2) := by decide +kernel
theorem dX6_meets_45 : decode cX6_meets 45 = .ok (.ireturn, 1) := by decide +kernel
theorem dX7_init_0 : decode cX7_init 0 = .ok (.aload_n 0, 1) := by decide +kernel
theorem dX7_init_1 : decode cX7_init 1 = .ok (.invokespecial 3, 3) := by decide +kernel
theorem dX7_init_4 : decode cX7_init 4 = .ok (.aload_n 0, 1) := by decide +kernel
theorem dX7_init_5 : decode cX7_init 5 = .ok (.bipush 101, 2) := by decide +kernel
theorem dX7_init_7 : decode cX7_init 7 = .ok (.newarray .int, 2) := by decide +kernel
theorem dX7_init_9 : decode cX7_init 9 = .ok (.putfield 9, 3) := by decide +kernel
theorem dX7_init_12 : decode cX7_init 12 = .ok (.aload_n 0, 1) := by decide +kernel
theorem dX7_init_13 : decode cX7_init 13 = .ok (.bipush 101, 2) := by decide +kernel
theorem dX7_init_15 : decode cX7_init 15 = .ok (.newarray .long, 2) := by decide +kernel
theorem dX7_init_17 : decode cX7_init 17 = .ok (.putfield 15, 3) := by decide +kernel
theorem dX7_init_20 : decode cX7_init 20 = .ok (.aload_n 0, 1) := by decide +kernel
theorem dX7_init_21 : decode cX7_init 21 = .ok (.bipush 101, 2) := by decide +kernel
theorem dX7_init_23 : decode cX7_init 23 = .ok (.newarray .boolean, 2) := by decide +kernel
theorem dX7_init_25 : decode cX7_init 25 = .ok (.putfield 19, 3) := by decide +kernel
theorem dX7_init_28 : decode cX7_init 28 = .ok (.aload_n 0, 1) := by decide +kernel
theorem dX7_init_29 : decode cX7_init 29 = .ok (.bipush 101, 2) := by decide +kernel
theorem dX7_init_31 : decode cX7_init 31 = .ok (.newarray .int, 2) := by decide +kernel
theorem dX7_init_33 : decode cX7_init 33 = .ok (.putfield 23, 3) := by decide +kernel
theorem dX7_init_36 : decode cX7_init 36 = .ok (.aload_n 0, 1) := by decide +kernel
theorem dX7_init_37 : decode cX7_init 37 = .ok (.bipush 101, 2) := by decide +kernel
theorem dX7_init_39 : decode cX7_init 39 = .ok (.newarray .int, 2) := by decide +kernel
theorem dX7_init_41 : decode cX7_init 41 = .ok (.putfield 26, 3) := by decide +kernel
theorem dX7_init_44 : decode cX7_init 44 = .ok (.aload_n 0, 1) := by decide +kernel
theorem dX7_init_45 : decode cX7_init 45 = .ok (.bipush 101, 2) := by decide +kernel
theorem dX7_init_47 : decode cX7_init 47 = .ok (.newarray .int, 2) := by decide +kernel
theorem dX7_init_49 : decode cX7_init 49 = .ok (.putfield 29, 3) := by decide +kernel
theorem dX7_init_52 : decode cX7_init 52 = .ok (.return_, 1) := by decide +kernel
set_option maxRecDepth 20000 in
theorem ggX7_countSame_X0_kindOf : GoodIn wsX7_countSame wsX0_kindOf := goodIn_r _ [8, 9, 10, 58, 59, 60] (by decide +kernel) (by decide +kernel)
set_option maxRecDepth 20000 in
theorem gX7_countSame_X0_kindOf : GoodIn wsX7_countSame (wsV RX7 41 RX0 yX0_kindOf wsX0_kindOf) := goodIn_app (goodIn_of _ (by decide +kernel)) ggX7_countSame_X0_kindOf
set_option maxRecDepth 20000 in
theorem ggX7_countSame_X0_targetOf : GoodIn wsX7_countSame wsX0_targetOf := goodIn_r _ [14, 9, 10, 58, 59, 60] (by decide +kernel) (by decide +kernel)
set_option maxRecDepth 20000 in
theorem gX7_countSame_X0_targetOf : GoodIn wsX7_countSame (wsV RX7 45 RX0 yX0_targetOf wsX0_targetOf) := goodIn_app (goodIn_of _ (by decide +kernel)) ggX7_countSame_X0_targetOf
set_option maxRecDepth 20000 in
theorem ggX7_countSame_X7_insert : GoodIn wsX7_countSame wsX7_insert := goodIn_r _ [19, 1, 20, 21, 22, 23, 24, 25, 26, 18, 27, 51, 52, 53, 54, 55, 56, 57] (by decide +kernel) (by decide +kernel)
set_option maxRecDepth 20000 in
theorem gX7_countSame_X7_insert : GoodIn wsX7_countSame (wsV RX7 49 RX7 yX7_insert wsX7_insert) := goodIn_app (goodIn_of _ (by decide +kernel)) ggX7_countSame_X7_insert
set_option maxRecDepth 20000 in
theorem ggX7_countSame_X7_delete : GoodIn wsX7_countSame wsX7_delete := goodIn_r _ [31, 22, 1, 20, 24, 25, 26, 18, 27, 51, 52, 53, 54, 55, 56, 57] (by decide +kernel) (by decide +kernel)
set_option maxRecDepth 20000 in
theorem gX7_countSame_X7_delete : GoodIn wsX7_countSame (wsV RX7 53 RX7 yX7_delete wsX7_delete) := goodIn_app (goodIn_of _ (by decide +kernel)) ggX7_countSame_X7_delete
set_option maxRecDepth 20000 in
theorem ggX7_countSame_X7_measure : GoodIn wsX7_countSame wsX7_measure := goodIn_r _ [35, 1, 36, 22, 20, 51, 52, 53, 54, 55, 56, 57] (by decide +kernel) (by decide +kernel)
set_option maxRecDepth 20000 in
theorem gX7_countSame_X7_measure : GoodIn wsX7_countSame (wsV RX7 57 RX7 yX7_measure wsX7_measure) := goodIn_app (goodIn_of _ (by decide +kernel)) ggX7_countSame_X7_measure
set_option maxRecDepth 20000 in
theorem ggX7_countSame_X7_layOut : GoodIn wsX7_countSame wsX7_layOut := goodIn_r _ [40, 41, 1, 22, 20, 36, 42, 43, 44, 18, 45, 46, 47, 48, 49, 23, 50, 21, 51, 52, 53, 54, 55, 56, 57, 61, 62, 63, 64, 65, 66] (by decide +kernel) (by decide +kernel)
set_option maxRecDepth 20000 in
theorem gX7_countSame_X7_layOut : GoodIn wsX7_countSame (wsV RX7 60 RX7 yX7_layOut wsX7_layOut) := goodIn_app (goodIn_of _ (by decide +kernel)) ggX7_countSame_X7_layOut
theorem dX7_countSame_0 : decode cX7_countSame 0 = .ok (.aload_n 0, 1) := by decide +kernel
theorem dX7_countSame_1 : decode cX7_countSame 1 = .ok (.iconst 0, 1) := by decide +kernel
theorem dX7_countSame_2 : decode cX7_countSame 2 = .ok (.putfield 32, 3) := by decide +kernel
theorem dX7_countSame_5 : decode cX7_countSame 5 = .ok (.iconst 0, 1) := by decide +kernel
theorem dX7_countSame_6 : decode cX7_countSame 6 = .ok (.istore_n 3, 1) := by decide +kernel
theorem dX7_countSame_7 : decode cX7_countSame 7 = .ok (.iload_n 3, 1) := by decide +kernel
theorem dX7_countSame_8 : decode cX7_countSame 8 = .ok (.aload_n 1, 1) := by decide +kernel
theorem dX7_countSame_9 : decode cX7_countSame 9 = .ok (.getfield 36, 3) := by decide +kernel
theorem dX7_countSame_12 : decode cX7_countSame 12 = .ok (.if_icmp .ge 54, 3) := by decide +kernel
theorem dX7_countSame_15 : decode cX7_countSame 15 = .ok (.aload_n 1, 1) := by decide +kernel
theorem dX7_countSame_16 : decode cX7_countSame 16 = .ok (.iload_n 3, 1) := by decide +kernel
theorem dX7_countSame_17 : decode cX7_countSame 17 = .ok (.invokevirtual 41, 3) := by decide +kernel
theorem dX7_countSame_20 : decode cX7_countSame 20 = .ok (.iconst 2, 1) := by decide +kernel
theorem dX7_countSame_21 : decode cX7_countSame 21 = .ok (.if_icmp .ne 21, 3) := by decide +kernel
theorem dX7_countSame_24 : decode cX7_countSame 24 = .ok (.aload_n 0, 1) := by decide +kernel
theorem dX7_countSame_25 : decode cX7_countSame 25 = .ok (.aload_n 1, 1) := by decide +kernel
theorem dX7_countSame_26 : decode cX7_countSame 26 = .ok (.iload_n 3, 1) := by decide +kernel
theorem dX7_countSame_27 : decode cX7_countSame 27 = .ok (.invokevirtual 45, 3) := by decide +kernel
theorem dX7_countSame_30 : decode cX7_countSame 30 = .ok (.aload_n 1, 1) := by decide +kernel
theorem dX7_countSame_31 : decode cX7_countSame 31 = .ok (.getfield 48, 3) := by decide +kernel
theorem dX7_countSame_34 : decode cX7_countSame 34 = .ok (.iload_n 3, 1) := by decide +kernel
theorem dX7_countSame_35 : decode cX7_countSame 35 = .ok (.laload, 1) := by decide +kernel
theorem dX7_countSame_36 : decode cX7_countSame 36 = .ok (.invokevirtual 49, 3) := by decide +kernel
theorem dX7_countSame_39 : decode cX7_countSame 39 = .ok (.goto 21, 3) := by decide +kernel
theorem dX7_countSame_42 : decode cX7_countSame 42 = .ok (.aload_n 1, 1) := by decide +kernel
theorem dX7_countSame_43 : decode cX7_countSame 43 = .ok (.iload_n 3, 1) := by decide +kernel
theorem dX7_countSame_44 : decode cX7_countSame 44 = .ok (.invokevirtual 41, 3) := by decide +kernel
theorem dX7_countSame_47 : decode cX7_countSame 47 = .ok (.iconst 3, 1) := by decide +kernel
theorem dX7_countSame_48 : decode cX7_countSame 48 = .ok (.if_icmp .ne 12, 3) := by decide +kernel
theorem dX7_countSame_51 : decode cX7_countSame 51 = .ok (.aload_n 0, 1) := by decide +kernel
theorem dX7_countSame_52 : decode cX7_countSame 52 = .ok (.aload_n 1, 1) := by decide +kernel
theorem dX7_countSame_53 : decode cX7_countSame 53 = .ok (.iload_n 3, 1) := by decide +kernel
theorem dX7_countSame_54 : decode cX7_countSame 54 = .ok (.invokevirtual 45, 3) := by decide +kernel
theorem dX7_countSame_57 : decode cX7_countSame 57 = .ok (.invokevirtual 53, 3) := by decide +kernel
theorem dX7_countSame_60 : decode cX7_countSame 60 = .ok (.iinc 3 1, 3) := by decide +kernel
theorem dX7_countSame_63 : decode cX7_countSame 63 = .ok (.goto (-56), 3) := by decide +kernel
theorem dX7_countSame_66 : decode cX7_countSame 66 = .ok (.aload_n 0, 1) := by decide +kernel
theorem dX7_countSame_67 : decode cX7_countSame 67 = .ok (.invokevirtual 57, 3) := by decide +kernel
theorem dX7_countSame_70 : decode cX7_countSame 70 = .ok (.aload_n 0, 1) := by decide +kernel
theorem dX7_countSame_71 : decode cX7_countSame 71 = .ok (.aload_n 2, 1) := by decide +kernel
theorem dX7_countSame_72 : decode cX7_countSame 72 = .ok (.invokevirtual 60, 3) := by decide +kernel
theorem dX7_countSame_75 : decode cX7_countSame 75 = .ok (.ireturn, 1) := by decide +kernel
theorem dX7_isThere_0 : decode cX7_isThere 0 = .ok (.iload_n 1, 1) := by decide +kernel
theorem dX7_isThere_1 : decode cX7_isThere 1 = .ok (.iconst 1, 1) := by decide +kernel
theorem dX7_isThere_2 : decode cX7_isThere 2 = .ok (.if_icmp .lt 24, 3) := by decide +kernel
theorem dX7_isThere_5 : decode cX7_isThere 5 = .ok (.iload_n 1, 1) := by decide +kernel
theorem dX7_isThere_6 : decode cX7_isThere 6 = .ok (.aload_n 0, 1) := by decide +kernel
theorem dX7_isThere_7 : decode cX7_isThere 7 = .ok (.getfield 32, 3) := by decide +kernel
theorem dX7_isThere_10 : decode cX7_isThere 10 = .ok (.if_icmp .gt 16, 3) := by decide +kernel
theorem dX7_isThere_13 : decode cX7_isThere 13 = .ok (.aload_n 0, 1) := by decide +kernel
theorem dX7_isThere_14 : decode cX7_isThere 14 = .ok (.getfield 19, 3) := by decide +kernel
theorem dX7_isThere_17 : decode cX7_isThere 17 = .ok (.iload_n 1, 1) := by decide +kernel
theorem dX7_isThere_18 : decode cX7_isThere 18 = .ok (.baload, 1) := by decide +kernel
theorem dX7_isThere_19 : decode cX7_isThere 19 = .ok (.ifCond .eq 7, 3) := by decide +kernel
theorem dX7_isThere_22 : decode cX7_isThere 22 = .ok (.iconst 1, 1) := by decide +kernel
theorem dX7_isThere_23 : decode cX7_isThere 23 = .ok (.goto 4, 3) := by decide +kernel
theorem dX7_isThere_26 : decode cX7_isThere 26 = .ok (.iconst 0, 1) := by decide +kernel
theorem dX7_isThere_27 : decode cX7_isThere 27 = .ok (.ireturn, 1) := by decide +kernel
set_option maxRecDepth 20000 in
theorem ggX7_insert_X7_isThere : GoodIn wsX7_insert wsX7_isThere := goodIn_r _ [10, 1, 4, 11, 12, 13, 14, 15, 16, 17] (by decide +kernel) (by decide +kernel)
set_option maxRecDepth 20000 in
theorem gX7_insert_X7_isThere : GoodIn wsX7_insert (wsV RX7 64 RX7 yX7_isThere wsX7_isThere) := goodIn_app (goodIn_of _ (by decide +kernel)) ggX7_insert_X7_isThere
theorem dX7_insert_0 : decode cX7_insert 0 = .ok (.aload_n 0, 1) := by decide +kernel
theorem dX7_insert_1 : decode cX7_insert 1 = .ok (.getfield 32, 3) := by decide +kernel
theorem dX7_insert_4 : decode cX7_insert 4 = .ok (.bipush 100, 2) := by decide +kernel
theorem dX7_insert_6 : decode cX7_insert 6 = .ok (.if_icmp .ge 15, 3) := by decide +kernel
theorem dX7_insert_9 : decode cX7_insert 9 = .ok (.iload_n 1, 1) := by decide +kernel
theorem dX7_insert_10 : decode cX7_insert 10 = .ok (.ifCond .eq 12, 3) := by decide +kernel
theorem dX7_insert_13 : decode cX7_insert 13 = .ok (.aload_n 0, 1) := by decide +kernel
theorem dX7_insert_14 : decode cX7_insert 14 = .ok (.iload_n 1, 1) := by decide +kernel
theorem dX7_insert_15 : decode cX7_insert 15 = .ok (.invokevirtual 64, 3) := by decide +kernel
theorem dX7_insert_18 : decode cX7_insert 18 = .ok (.ifCond .ne 4, 3) := by decide +kernel
theorem dX7_insert_21 : decode cX7_insert 21 = .ok (.return_, 1) := by decide +kernel
theorem dX7_insert_22 : decode cX7_insert 22 = .ok (.aload_n 0, 1) := by decide +kernel
theorem dX7_insert_23 : decode cX7_insert 23 = .ok (.dup, 1) := by decide +kernel
theorem dX7_insert_24 : decode cX7_insert 24 = .ok (.getfield 32, 3) := by decide +kernel
theorem dX7_insert_27 : decode cX7_insert 27 = .ok (.iconst 1, 1) := by decide +kernel
theorem dX7_insert_28 : decode cX7_insert 28 = .ok (.iadd, 1) := by decide +kernel
theorem dX7_insert_29 : decode cX7_insert 29 = .ok (.putfield 32, 3) := by decide +kernel
theorem dX7_insert_32 : decode cX7_insert 32 = .ok (.aload_n 0, 1) := by decide +kernel
theorem dX7_insert_33 : decode cX7_insert 33 = .ok (.getfield 9, 3) := by decide +kernel
theorem dX7_insert_36 : decode cX7_insert 36 = .ok (.aload_n 0, 1) := by decide +kernel
theorem dX7_insert_37 : decode cX7_insert 37 = .ok (.getfield 32, 3) := by decide +kernel
theorem dX7_insert_40 : decode cX7_insert 40 = .ok (.iload_n 1, 1) := by decide +kernel
theorem dX7_insert_41 : decode cX7_insert 41 = .ok (.iastore, 1) := by decide +kernel
theorem dX7_insert_42 : decode cX7_insert 42 = .ok (.aload_n 0, 1) := by decide +kernel
theorem dX7_insert_43 : decode cX7_insert 43 = .ok (.getfield 15, 3) := by decide +kernel
theorem dX7_insert_46 : decode cX7_insert 46 = .ok (.aload_n 0, 1) := by decide +kernel
theorem dX7_insert_47 : decode cX7_insert 47 = .ok (.getfield 32, 3) := by decide +kernel
theorem dX7_insert_50 : decode cX7_insert 50 = .ok (.lload_n 2, 1) := by decide +kernel
theorem dX7_insert_51 : decode cX7_insert 51 = .ok (.lastore, 1) := by decide +kernel
theorem dX7_insert_52 : decode cX7_insert 52 = .ok (.aload_n 0, 1) := by decide +kernel
theorem dX7_insert_53 : decode cX7_insert 53 = .ok (.getfield 19, 3) := by decide +kernel
theorem dX7_insert_56 : decode cX7_insert 56 = .ok (.aload_n 0, 1) := by decide +kernel
theorem dX7_insert_57 : decode cX7_insert 57 = .ok (.getfield 32, 3) := by decide +kernel
theorem dX7_insert_60 : decode cX7_insert 60 = .ok (.iconst 1, 1) := by decide +kernel
theorem dX7_insert_61 : decode cX7_insert 61 = .ok (.bastore, 1) := by decide +kernel
theorem dX7_insert_62 : decode cX7_insert 62 = .ok (.aload_n 0, 1) := by decide +kernel
theorem dX7_insert_63 : decode cX7_insert 63 = .ok (.getfield 23, 3) := by decide +kernel
theorem dX7_insert_66 : decode cX7_insert 66 = .ok (.aload_n 0, 1) := by decide +kernel
theorem dX7_insert_67 : decode cX7_insert 67 = .ok (.getfield 32, 3) := by decide +kernel
theorem dX7_insert_70 : decode cX7_insert 70 = .ok (.iload_n 1, 1) := by decide +kernel
theorem dX7_insert_71 : decode cX7_insert 71 = .ok (.ifCond .ne 7, 3) := by decide +kernel
theorem dX7_insert_74 : decode cX7_insert 74 = .ok (.iconst 0, 1) := by decide +kernel
theorem dX7_insert_75 : decode cX7_insert 75 = .ok (.goto 11, 3) := by decide +kernel
theorem dX7_insert_78 : decode cX7_insert 78 = .ok (.aload_n 0, 1) := by decide +kernel
theorem dX7_insert_79 : decode cX7_insert 79 = .ok (.getfield 23, 3) := by decide +kernel
theorem dX7_insert_82 : decode cX7_insert 82 = .ok (.iload_n 1, 1) := by decide +kernel
theorem dX7_insert_83 : decode cX7_insert 83 = .ok (.iaload, 1) := by decide +kernel
theorem dX7_insert_84 : decode cX7_insert 84 = .ok (.iconst 1, 1) := by decide +kernel
theorem dX7_insert_85 : decode cX7_insert 85 = .ok (.iadd, 1) := by decide +kernel
theorem dX7_insert_86 : decode cX7_insert 86 = .ok (.iastore, 1) := by decide +kernel
theorem dX7_insert_87 : decode cX7_insert 87 = .ok (.return_, 1) := by decide +kernel
set_option maxRecDepth 20000 in
theorem ggX7_delete_X7_isThere : GoodIn wsX7_delete wsX7_isThere := goodIn_r _ [8, 2, 1, 9, 10, 11, 12, 13, 14, 15] (by decide +kernel) (by decide +kernel)
set_option maxRecDepth 20000 in
theorem gX7_delete_X7_isThere : GoodIn wsX7_delete (wsV RX7 64 RX7 yX7_isThere wsX7_isThere) := goodIn_app (goodIn_of _ (by decide +kernel)) ggX7_delete_X7_isThere
theorem dX7_delete_0 : decode cX7_delete 0 = .ok (.aload_n 0, 1) := by decide +kernel
theorem dX7_delete_1 : decode cX7_delete 1 = .ok (.iload_n 1, 1) := by decide +kernel
theorem dX7_delete_2 : decode cX7_delete 2 = .ok (.invokevirtual 64, 3) := by decide +kernel
theorem dX7_delete_5 : decode cX7_delete 5 = .ok (.ifCond .ne 4, 3) := by decide +kernel
theorem dX7_delete_8 : decode cX7_delete 8 = .ok (.return_, 1) := by decide +kernel
theorem dX7_delete_9 : decode cX7_delete 9 = .ok (.aload_n 0, 1) := by decide +kernel
theorem dX7_delete_10 : decode cX7_delete 10 = .ok (.getfield 19, 3) := by decide +kernel
theorem dX7_delete_13 : decode cX7_delete 13 = .ok (.iload_n 1, 1) := by decide +kernel
theorem dX7_delete_14 : decode cX7_delete 14 = .ok (.iconst 0, 1) := by decide +kernel
theorem dX7_delete_15 : decode cX7_delete 15 = .ok (.bastore, 1) := by decide +kernel
theorem dX7_delete_16 : decode cX7_delete 16 = .ok (.iload_n 1, 1) := by decide +kernel
theorem dX7_delete_17 : decode cX7_delete 17 = .ok (.iconst 1, 1) := by decide +kernel
theorem dX7_delete_18 : decode cX7_delete 18 = .ok (.iadd, 1) := by decide +kernel
theorem dX7_delete_19 : decode cX7_delete 19 = .ok (.istore_n 2, 1) := by decide +kernel
theorem dX7_delete_20 : decode cX7_delete 20 = .ok (.iload_n 2, 1) := by decide +kernel
theorem dX7_delete_21 : decode cX7_delete 21 = .ok (.aload_n 0, 1) := by decide +kernel
theorem dX7_delete_22 : decode cX7_delete 22 = .ok (.getfield 32, 3) := by decide +kernel
theorem dX7_delete_25 : decode cX7_delete 25 = .ok (.if_icmp .gt 39, 3) := by decide +kernel
theorem dX7_delete_28 : decode cX7_delete 28 = .ok (.aload_n 0, 1) := by decide +kernel
theorem dX7_delete_29 : decode cX7_delete 29 = .ok (.getfield 9, 3) := by decide +kernel
theorem dX7_delete_32 : decode cX7_delete 32 = .ok (.iload_n 2, 1) := by decide +kernel
theorem dX7_delete_33 : decode cX7_delete 33 = .ok (.iaload, 1) := by decide +kernel
theorem dX7_delete_34 : decode cX7_delete 34 = .ok (.ifCond .eq 24, 3) := by decide +kernel
theorem dX7_delete_37 : decode cX7_delete 37 = .ok (.aload_n 0, 1) := by decide +kernel
theorem dX7_delete_38 : decode cX7_delete 38 = .ok (.getfield 19, 3) := by decide +kernel
theorem dX7_delete_41 : decode cX7_delete 41 = .ok (.aload_n 0, 1) := by decide +kernel
theorem dX7_delete_42 : decode cX7_delete 42 = .ok (.getfield 9, 3) := by decide +kernel
theorem dX7_delete_45 : decode cX7_delete 45 = .ok (.iload_n 2, 1) := by decide +kernel
theorem dX7_delete_46 : decode cX7_delete 46 = .ok (.iaload, 1) := by decide +kernel
theorem dX7_delete_47 : decode cX7_delete 47 = .ok (.baload, 1) := by decide +kernel
theorem dX7_delete_48 : decode cX7_delete 48 = .ok (.ifCond .ne 10, 3) := by decide +kernel
theorem dX7_delete_51 : decode cX7_delete 51 = .ok (.aload_n 0, 1) := by decide +kernel
theorem dX7_delete_52 : decode cX7_delete 52 = .ok (.getfield 19, 3) := by decide +kernel
theorem dX7_delete_55 : decode cX7_delete 55 = .ok (.iload_n 2, 1) := by decide +kernel
theorem dX7_delete_56 : decode cX7_delete 56 = .ok (.iconst 0, 1) := by decide +kernel
theorem dX7_delete_57 : decode cX7_delete 57 = .ok (.bastore, 1) := by decide +kernel
theorem dX7_delete_58 : decode cX7_delete 58 = .ok (.iinc 2 1, 3) := by decide +kernel
theorem dX7_delete_61 : decode cX7_delete 61 = .ok (.goto (-41), 3) := by decide +kernel
theorem dX7_delete_64 : decode cX7_delete 64 = .ok (.return_, 1) := by decide +kernel
theorem dX7_measure_0 : decode cX7_measure 0 = .ok (.iconst 0, 1) := by decide +kernel
theorem dX7_measure_1 : decode cX7_measure 1 = .ok (.istore_n 1, 1) := by decide +kernel
theorem dX7_measure_2 : decode cX7_measure 2 = .ok (.iload_n 1, 1) := by decide +kernel
theorem dX7_measure_3 : decode cX7_measure 3 = .ok (.aload_n 0, 1) := by decide +kernel
theorem dX7_measure_4 : decode cX7_measure 4 = .ok (.getfield 32, 3) := by decide +kernel
theorem dX7_measure_7 : decode cX7_measure 7 = .ok (.if_icmp .gt 16, 3) := by decide +kernel
theorem dX7_measure_10 : decode cX7_measure 10 = .ok (.aload_n 0, 1) := by decide +kernel
theorem dX7_measure_11 : decode cX7_measure 11 = .ok (.getfield 26, 3) := by decide +kernel
theorem dX7_measure_14 : decode cX7_measure 14 = .ok (.iload_n 1, 1) := by decide +kernel
theorem dX7_measure_15 : decode cX7_measure 15 = .ok (.iconst 1, 1) := by decide +kernel
theorem dX7_measure_16 : decode cX7_measure 16 = .ok (.iastore, 1) := by decide +kernel
theorem dX7_measure_17 : decode cX7_measure 17 = .ok (.iinc 1 1, 3) := by decide +kernel
theorem dX7_measure_20 : decode cX7_measure 20 = .ok (.goto (-18), 3) := by decide +kernel
theorem dX7_measure_23 : decode cX7_measure 23 = .ok (.aload_n 0, 1) := by decide +kernel
theorem dX7_measure_24 : decode cX7_measure 24 = .ok (.getfield 32, 3) := by decide +kernel
theorem dX7_measure_27 : decode cX7_measure 27 = .ok (.istore_n 1, 1) := by decide +kernel
theorem dX7_measure_28 : decode cX7_measure 28 = .ok (.iload_n 1, 1) := by decide +kernel
theorem dX7_measure_29 : decode cX7_measure 29 = .ok (.iconst 1, 1) := by decide +kernel
theorem dX7_measure_30 : decode cX7_measure 30 = .ok (.if_icmp .lt 38, 3) := by decide +kernel
theorem dX7_measure_33 : decode cX7_measure 33 = .ok (.aload_n 0, 1) := by decide +kernel
theorem dX7_measure_34 : decode cX7_measure 34 = .ok (.getfield 19, 3) := by decide +kernel
theorem dX7_measure_37 : decode cX7_measure 37 = .ok (.iload_n 1, 1) := by decide +kernel
theorem dX7_measure_38 : decode cX7_measure 38 = .ok (.baload, 1) := by decide +kernel
theorem dX7_measure_39 : decode cX7_measure 39 = .ok (.ifCond .eq 23, 3) := by decide +kernel
theorem dX7_measure_42 : decode cX7_measure 42 = .ok (.aload_n 0, 1) := by decide +kernel
theorem dX7_measure_43 : decode cX7_measure 43 = .ok (.getfield 26, 3) := by decide +kernel
theorem dX7_measure_46 : decode cX7_measure 46 = .ok (.aload_n 0, 1) := by decide +kernel
theorem dX7_measure_47 : decode cX7_measure 47 = .ok (.getfield 9, 3) := by decide +kernel
theorem dX7_measure_50 : decode cX7_measure 50 = .ok (.iload_n 1, 1) := by decide +kernel
theorem dX7_measure_51 : decode cX7_measure 51 = .ok (.iaload, 1) := by decide +kernel
theorem dX7_measure_52 : decode cX7_measure 52 = .ok (.dup2, 1) := by decide +kernel
theorem dX7_measure_53 : decode cX7_measure 53 = .ok (.iaload, 1) := by decide +kernel
theorem dX7_measure_54 : decode cX7_measure 54 = .ok (.aload_n 0, 1) := by decide +kernel
theorem dX7_measure_55 : decode cX7_measure 55 = .ok (.getfield 26, 3) := by decide +kernel
theorem dX7_measure_58 : decode cX7_measure 58 = .ok (.iload_n 1, 1) := by decide +kernel
theorem dX7_measure_59 : decode cX7_measure 59 = .ok (.iaload, 1) := by decide +kernel
theorem dX7_measure_60 : decode cX7_measure 60 = .ok (.iadd, 1) := by decide +kernel
theorem dX7_measure_61 : decode cX7_measure 61 = .ok (.iastore, 1) := by decide +kernel
theorem dX7_measure_62 : decode cX7_measure 62 = .ok (.iinc 1 (-1), 3) := by decide +kernel
theorem dX7_measure_65 : decode cX7_measure 65 = .ok (.goto (-37), 3) := by decide +kernel
theorem dX7_measure_68 : decode cX7_measure 68 = .ok (.return_, 1) := by decide +kernel
set_option maxRecDepth 20000 in
theorem ggX7_layOut_X7_isSame : GoodIn wsX7_layOut wsX7_isSame := goodIn_r _ [10, 11, 12, 13, 4, 14, 15, 16, 17, 25, 26, 27, 28, 29, 30, 18, 19, 20, 21, 22, 23, 24] (by decide +kernel) (by decide +kernel)
set_option maxRecDepth 20000 in
theorem gX7_layOut_X7_isSame : GoodIn wsX7_layOut (wsV RX7 68 RX7 yX7_isSame wsX7_isSame) := goodIn_app (goodIn_of _ (by decide +kernel)) ggX7_layOut_X7_isSame
theorem dX7_layOut_0 : decode cX7_layOut 0 = .ok (.iconst 0, 1) := by decide +kernel
theorem dX7_layOut_1 : decode cX7_layOut 1 = .ok (.istore_n 2, 1) := by decide +kernel
theorem dX7_layOut_2 : decode cX7_layOut 2 = .ok (.aload_n 0, 1) := by decide +kernel
theorem dX7_layOut_3 : decode cX7_layOut 3 = .ok (.getfield 29, 3) := by decide +kernel
theorem dX7_layOut_6 : decode cX7_layOut 6 = .ok (.iconst 0, 1) := by decide +kernel
theorem dX7_layOut_7 : decode cX7_layOut 7 = .ok (.iconst 0, 1) := by decide +kernel
theorem dX7_layOut_8 : decode cX7_layOut 8 = .ok (.iastore, 1) := by decide +kernel
theorem dX7_layOut_9 : decode cX7_layOut 9 = .ok (.iconst 1, 1) := by decide +kernel
theorem dX7_layOut_10 : decode cX7_layOut 10 = .ok (.istore_n 3, 1) := by decide +kernel
theorem dX7_layOut_11 : decode cX7_layOut 11 = .ok (.iload_n 3, 1) := by decide +kernel
theorem dX7_layOut_12 : decode cX7_layOut 12 = .ok (.aload_n 0, 1) := by decide +kernel
theorem dX7_layOut_13 : decode cX7_layOut 13 = .ok (.getfield 32, 3) := by decide +kernel
theorem dX7_layOut_16 : decode cX7_layOut 16 = .ok (.if_icmp .gt 80, 3) := by decide +kernel
theorem dX7_layOut_19 : decode cX7_layOut 19 = .ok (.aload_n 0, 1) := by decide +kernel
theorem dX7_layOut_20 : decode cX7_layOut 20 = .ok (.getfield 19, 3) := by decide +kernel
theorem dX7_layOut_23 : decode cX7_layOut 23 = .ok (.iload_n 3, 1) := by decide +kernel
theorem dX7_layOut_24 : decode cX7_layOut 24 = .ok (.baload, 1) := by decide +kernel
theorem dX7_layOut_25 : decode cX7_layOut 25 = .ok (.ifCond .eq 65, 3) := by decide +kernel
theorem dX7_layOut_28 : decode cX7_layOut 28 = .ok (.aload_n 0, 1) := by decide +kernel
theorem dX7_layOut_29 : decode cX7_layOut 29 = .ok (.getfield 29, 3) := by decide +kernel
theorem dX7_layOut_32 : decode cX7_layOut 32 = .ok (.aload_n 0, 1) := by decide +kernel
theorem dX7_layOut_33 : decode cX7_layOut 33 = .ok (.getfield 9, 3) := by decide +kernel
theorem dX7_layOut_36 : decode cX7_layOut 36 = .ok (.iload_n 3, 1) := by decide +kernel
theorem dX7_layOut_37 : decode cX7_layOut 37 = .ok (.iaload, 1) := by decide +kernel
theorem dX7_layOut_38 : decode cX7_layOut 38 = .ok (.iaload, 1) := by decide +kernel
theorem dX7_layOut_39 : decode cX7_layOut 39 = .ok (.istore 4, 2) := by decide +kernel
theorem dX7_layOut_41 : decode cX7_layOut 41 = .ok (.aload_n 0, 1) := by decide +kernel
theorem dX7_layOut_42 : decode cX7_layOut 42 = .ok (.getfield 29, 3) := by decide +kernel
theorem dX7_layOut_45 : decode cX7_layOut 45 = .ok (.aload_n 0, 1) := by decide +kernel
theorem dX7_layOut_46 : decode cX7_layOut 46 = .ok (.getfield 9, 3) := by decide +kernel
theorem dX7_layOut_49 : decode cX7_layOut 49 = .ok (.iload_n 3, 1) := by decide +kernel
theorem dX7_layOut_50 : decode cX7_layOut 50 = .ok (.iaload, 1) := by decide +kernel
theorem dX7_layOut_51 : decode cX7_layOut 51 = .ok (.iload 4, 2) := by decide +kernel
theorem dX7_layOut_53 : decode cX7_layOut 53 = .ok (.aload_n 0, 1) := by decide +kernel
theorem dX7_layOut_54 : decode cX7_layOut 54 = .ok (.getfield 26, 3) := by decide +kernel
theorem dX7_layOut_57 : decode cX7_layOut 57 = .ok (.iload_n 3, 1) := by decide +kernel
theorem dX7_layOut_58 : decode cX7_layOut 58 = .ok (.iaload, 1) := by decide +kernel
theorem dX7_layOut_59 : decode cX7_layOut 59 = .ok (.iadd, 1) := by decide +kernel
theorem dX7_layOut_60 : decode cX7_layOut 60 = .ok (.iastore, 1) := by decide +kernel
theorem dX7_layOut_61 : decode cX7_layOut 61 = .ok (.aload_n 0, 1) := by decide +kernel
theorem dX7_layOut_62 : decode cX7_layOut 62 = .ok (.getfield 29, 3) := by decide +kernel
theorem dX7_layOut_65 : decode cX7_layOut 65 = .ok (.iload_n 3, 1) := by decide +kernel
theorem dX7_layOut_66 : decode cX7_layOut 66 = .ok (.iload 4, 2) := by decide +kernel
theorem dX7_layOut_68 : decode cX7_layOut 68 = .ok (.iconst 1, 1) := by decide +kernel
theorem dX7_layOut_69 : decode cX7_layOut 69 = .ok (.iadd, 1) := by decide +kernel
theorem dX7_layOut_70 : decode cX7_layOut 70 = .ok (.iastore, 1) := by decide +kernel
theorem dX7_layOut_71 : decode cX7_layOut 71 = .ok (.iload_n 2, 1) := by decide +kernel
theorem dX7_layOut_72 : decode cX7_layOut 72 = .ok (.aload_n 0, 1) := by decide +kernel
theorem dX7_layOut_73 : decode cX7_layOut 73 = .ok (.iload_n 3, 1) := by decide +kernel
theorem dX7_layOut_74 : decode cX7_layOut 74 = .ok (.aload_n 1, 1) := by decide +kernel
theorem dX7_layOut_75 : decode cX7_layOut 75 = .ok (.iload 4, 2) := by decide +kernel
theorem dX7_layOut_77 : decode cX7_layOut 77 = .ok (.invokevirtual 68, 3) := by decide +kernel
theorem dX7_layOut_80 : decode cX7_layOut 80 = .ok (.ifCond .eq 7, 3) := by decide +kernel
theorem dX7_layOut_83 : decode cX7_layOut 83 = .ok (.iconst 1, 1) := by decide +kernel
theorem dX7_layOut_84 : decode cX7_layOut 84 = .ok (.goto 4, 3) := by decide +kernel
theorem dX7_layOut_87 : decode cX7_layOut 87 = .ok (.iconst 0, 1) := by decide +kernel
theorem dX7_layOut_88 : decode cX7_layOut 88 = .ok (.iadd, 1) := by decide +kernel
theorem dX7_layOut_89 : decode cX7_layOut 89 = .ok (.istore_n 2, 1) := by decide +kernel
theorem dX7_layOut_90 : decode cX7_layOut 90 = .ok (.iinc 3 1, 3) := by decide +kernel
theorem dX7_layOut_93 : decode cX7_layOut 93 = .ok (.goto (-82), 3) := by decide +kernel
theorem dX7_layOut_96 : decode cX7_layOut 96 = .ok (.iload_n 2, 1) := by decide +kernel
theorem dX7_layOut_97 : decode cX7_layOut 97 = .ok (.ireturn, 1) := by decide +kernel
theorem dX7_isSame_0 : decode cX7_isSame 0 = .ok (.iload_n 3, 1) := by decide +kernel
theorem dX7_isSame_1 : decode cX7_isSame 1 = .ok (.aload_n 2, 1) := by decide +kernel
theorem dX7_isSame_2 : decode cX7_isSame 2 = .ok (.getfield 72, 3) := by decide +kernel
theorem dX7_isSame_5 : decode cX7_isSame 5 = .ok (.if_icmp .ge 63, 3) := by decide +kernel
theorem dX7_isSame_8 : decode cX7_isSame 8 = .ok (.aload_n 2, 1) := by decide +kernel
theorem dX7_isSame_9 : decode cX7_isSame 9 = .ok (.getfield 76, 3) := by decide +kernel
theorem dX7_isSame_12 : decode cX7_isSame 12 = .ok (.iload_n 3, 1) := by decide +kernel
theorem dX7_isSame_13 : decode cX7_isSame 13 = .ok (.iaload, 1) := by decide +kernel
theorem dX7_isSame_14 : decode cX7_isSame 14 = .ok (.iload_n 1, 1) := by decide +kernel
theorem dX7_isSame_15 : decode cX7_isSame 15 = .ok (.if_icmp .ne 53, 3) := by decide +kernel
theorem dX7_isSame_18 : decode cX7_isSame 18 = .ok (.aload_n 2, 1) := by decide +kernel
theorem dX7_isSame_19 : decode cX7_isSame 19 = .ok (.getfield 79, 3) := by decide +kernel
theorem dX7_isSame_22 : decode cX7_isSame 22 = .ok (.iload_n 1, 1) := by decide +kernel
theorem dX7_isSame_23 : decode cX7_isSame 23 = .ok (.iaload, 1) := by decide +kernel
theorem dX7_isSame_24 : decode cX7_isSame 24 = .ok (.aload_n 0, 1) := by decide +kernel
theorem dX7_isSame_25 : decode cX7_isSame 25 = .ok (.getfield 9, 3) := by decide +kernel
theorem dX7_isSame_28 : decode cX7_isSame 28 = .ok (.iload_n 1, 1) := by decide +kernel
theorem dX7_isSame_29 : decode cX7_isSame 29 = .ok (.iaload, 1) := by decide +kernel
theorem dX7_isSame_30 : decode cX7_isSame 30 = .ok (.if_icmp .ne 38, 3) := by decide +kernel
theorem dX7_isSame_33 : decode cX7_isSame 33 = .ok (.aload_n 2, 1) := by decide +kernel
theorem dX7_isSame_34 : decode cX7_isSame 34 = .ok (.getfield 80, 3) := by decide +kernel
theorem dX7_isSame_37 : decode cX7_isSame 37 = .ok (.iload_n 1, 1) := by decide +kernel
theorem dX7_isSame_38 : decode cX7_isSame 38 = .ok (.iaload, 1) := by decide +kernel
theorem dX7_isSame_39 : decode cX7_isSame 39 = .ok (.aload_n 0, 1) := by decide +kernel
theorem dX7_isSame_40 : decode cX7_isSame 40 = .ok (.getfield 23, 3) := by decide +kernel
theorem dX7_isSame_43 : decode cX7_isSame 43 = .ok (.iload_n 1, 1) := by decide +kernel
theorem dX7_isSame_44 : decode cX7_isSame 44 = .ok (.iaload, 1) := by decide +kernel
theorem dX7_isSame_45 : decode cX7_isSame 45 = .ok (.if_icmp .ne 23, 3) := by decide +kernel
theorem dX7_isSame_48 : decode cX7_isSame 48 = .ok (.aload_n 2, 1) := by decide +kernel
theorem dX7_isSame_49 : decode cX7_isSame 49 = .ok (.getfield 81, 3) := by decide +kernel
theorem dX7_isSame_52 : decode cX7_isSame 52 = .ok (.iload_n 1, 1) := by decide +kernel
theorem dX7_isSame_53 : decode cX7_isSame 53 = .ok (.laload, 1) := by decide +kernel
theorem dX7_isSame_54 : decode cX7_isSame 54 = .ok (.aload_n 0, 1) := by decide +kernel
theorem dX7_isSame_55 : decode cX7_isSame 55 = .ok (.getfield 15, 3) := by decide +kernel
theorem dX7_isSame_58 : decode cX7_isSame 58 = .ok (.iload_n 1, 1) := by decide +kernel
theorem dX7_isSame_59 : decode cX7_isSame 59 = .ok (.laload, 1) := by decide +kernel
theorem dX7_isSame_60 : decode cX7_isSame 60 = .ok (.lcmp, 1) := by decide +kernel
theorem dX7_isSame_61 : decode cX7_isSame 61 = .ok (.ifCond .ne 7, 3) := by decide +kernel
theorem dX7_isSame_64 : decode cX7_isSame 64 = .ok (.iconst 1, 1) := by decide +kernel
theorem dX7_isSame_65 : decode cX7_isSame 65 = .ok (.goto 4, 3) := by decide +kernel
theorem dX7_isSame_68 : decode cX7_isSame 68 = .ok (.iconst 0, 1) := by decide +kernel
theorem dX7_isSame_69 : decode cX7_isSame 69 = .ok (.ireturn, 1) := by decide +kernel
theorem dX8_init_0 : decode cX8_init 0 = .ok (.aload_n 0, 1) := by decide +kernel
theorem dX8_init_1 : decode cX8_init 1 = .ok (.invokespecial 3, 3) := by decide +kernel
theorem dX8_init_4 : decode cX8_init 4 = .ok (.aload_n 0, 1) := by decide +kernel
theorem dX8_init_5 : decode cX8_init 5 = .ok (.bipush 100, 2) := by decide +kernel
theorem dX8_init_7 : decode cX8_init 7 = .ok (.newarray .int, 2) := by decide +kernel
theorem dX8_init_9 : decode cX8_init 9 = .ok (.putfield 9, 3) := by decide +kernel
theorem dX8_init_12 : decode cX8_init 12 = .ok (.aload_n 0, 1) := by decide +kernel
theorem dX8_init_13 : decode cX8_init 13 = .ok (.bipush 101, 2) := by decide +kernel
theorem dX8_init_15 : decode cX8_init 15 = .ok (.newarray .int, 2) := by decide +kernel
theorem dX8_init_17 : decode cX8_init 17 = .ok (.putfield 15, 3) := by decide +kernel
theorem dX8_init_20 : decode cX8_init 20 = .ok (.aload_n 0, 1) := by decide +kernel
theorem dX8_init_21 : decode cX8_init 21 = .ok (.bipush 101, 2) := by decide +kernel
theorem dX8_init_23 : decode cX8_init 23 = .ok (.newarray .int, 2) := by decide +kernel
theorem dX8_init_25 : decode cX8_init 25 = .ok (.putfield 18, 3) := by decide +kernel
theorem dX8_init_28 : decode cX8_init 28 = .ok (.aload_n 0, 1) := by decide +kernel
theorem dX8_init_29 : decode cX8_init 29 = .ok (.bipush 101, 2) := by decide +kernel
theorem dX8_init_31 : decode cX8_init 31 = .ok (.newarray .long, 2) := by decide +kernel
theorem dX8_init_33 : decode cX8_init 33 = .ok (.putfield 21, 3) := by decide +kernel
theorem dX8_init_36 : decode cX8_init 36 = .ok (.return_, 1) := by decide +kernel
set_option maxRecDepth 20000 in
theorem ggX8_insert_X8_find : GoodIn wsX8_insert wsX8_find := goodIn_r _ [15, 1, 6, 20, 21, 22, 23, 24, 25] (by decide +kernel) (by decide +kernel)
set_option maxRecDepth 20000 in
theorem gX8_insert_X8_find : GoodIn wsX8_insert (wsV RX8 29 RX8 yX8_find wsX8_find) := goodIn_app (goodIn_of _ (by decide +kernel)) ggX8_insert_X8_find
set_option maxRecDepth 20000 in
theorem ggX8_insert_X8_endOf : GoodIn wsX8_insert wsX8_endOf := goodIn_r _ [19, 4, 6, 1, 20, 21, 22, 23, 24, 25] (by decide +kernel) (by decide +kernel)
set_option maxRecDepth 20000 in
theorem gX8_insert_X8_endOf : GoodIn wsX8_insert (wsV RX8 36 RX8 yX8_endOf wsX8_endOf) := goodIn_app (goodIn_of _ (by decide +kernel)) ggX8_insert_X8_endOf
theorem dX8_insert_0 : decode cX8_insert 0 = .ok (.iload_n 1, 1) := by decide +kernel
theorem dX8_insert_1 : decode cX8_insert 1 = .ok (.ifCond .ne 10, 3) := by decide +kernel
theorem dX8_insert_4 : decode cX8_insert 4 = .ok (.aload_n 0, 1) := by decide +kernel
theorem dX8_insert_5 : decode cX8_insert 5 = .ok (.getfield 25, 3) := by decide +kernel
theorem dX8_insert_8 : decode cX8_insert 8 = .ok (.goto 8, 3) := by decide +kernel
theorem dX8_insert_11 : decode cX8_insert 11 = .ok (.aload_n 0, 1) := by decide +kernel
theorem dX8_insert_12 : decode cX8_insert 12 = .ok (.iload_n 1, 1) := by decide +kernel
theorem dX8_insert_13 : decode cX8_insert 13 = .ok (.invokevirtual 29, 3) := by decide +kernel
theorem dX8_insert_16 : decode cX8_insert 16 = .ok (.istore 4, 2) := by decide +kernel
theorem dX8_insert_18 : decode cX8_insert 18 = .ok (.aload_n 0, 1) := by decide +kernel
theorem dX8_insert_19 : decode cX8_insert 19 = .ok (.getfield 33, 3) := by decide +kernel
theorem dX8_insert_22 : decode cX8_insert 22 = .ok (.bipush 100, 2) := by decide +kernel
theorem dX8_insert_24 : decode cX8_insert 24 = .ok (.if_icmp .ge 9, 3) := by decide +kernel
theorem dX8_insert_27 : decode cX8_insert 27 = .ok (.iload 4, 2) := by decide +kernel
theorem dX8_insert_29 : decode cX8_insert 29 = .ok (.iconst (-1), 1) := by decide +kernel
theorem dX8_insert_30 : decode cX8_insert 30 = .ok (.if_icmp .ne 4, 3) := by decide +kernel
theorem dX8_insert_33 : decode cX8_insert 33 = .ok (.return_, 1) := by decide +kernel
theorem dX8_insert_34 : decode cX8_insert 34 = .ok (.iload_n 1, 1) := by decide +kernel
theorem dX8_insert_35 : decode cX8_insert 35 = .ok (.ifCond .eq 11, 3) := by decide +kernel
theorem dX8_insert_38 : decode cX8_insert 38 = .ok (.aload_n 0, 1) := by decide +kernel
theorem dX8_insert_39 : decode cX8_insert 39 = .ok (.iload 4, 2) := by decide +kernel
theorem dX8_insert_41 : decode cX8_insert 41 = .ok (.invokevirtual 36, 3) := by decide +kernel
theorem dX8_insert_44 : decode cX8_insert 44 = .ok (.istore 4, 2) := by decide +kernel
theorem dX8_insert_46 : decode cX8_insert 46 = .ok (.aload_n 0, 1) := by decide +kernel
theorem dX8_insert_47 : decode cX8_insert 47 = .ok (.dup, 1) := by decide +kernel
theorem dX8_insert_48 : decode cX8_insert 48 = .ok (.getfield 33, 3) := by decide +kernel
theorem dX8_insert_51 : decode cX8_insert 51 = .ok (.iconst 1, 1) := by decide +kernel
theorem dX8_insert_52 : decode cX8_insert 52 = .ok (.iadd, 1) := by decide +kernel
theorem dX8_insert_53 : decode cX8_insert 53 = .ok (.putfield 33, 3) := by decide +kernel
theorem dX8_insert_56 : decode cX8_insert 56 = .ok (.aload_n 0, 1) := by decide +kernel
theorem dX8_insert_57 : decode cX8_insert 57 = .ok (.getfield 15, 3) := by decide +kernel
theorem dX8_insert_60 : decode cX8_insert 60 = .ok (.aload_n 0, 1) := by decide +kernel
theorem dX8_insert_61 : decode cX8_insert 61 = .ok (.getfield 33, 3) := by decide +kernel
theorem dX8_insert_64 : decode cX8_insert 64 = .ok (.iload_n 1, 1) := by decide +kernel
theorem dX8_insert_65 : decode cX8_insert 65 = .ok (.iastore, 1) := by decide +kernel
theorem dX8_insert_66 : decode cX8_insert 66 = .ok (.aload_n 0, 1) := by decide +kernel
theorem dX8_insert_67 : decode cX8_insert 67 = .ok (.getfield 18, 3) := by decide +kernel
theorem dX8_insert_70 : decode cX8_insert 70 = .ok (.aload_n 0, 1) := by decide +kernel
theorem dX8_insert_71 : decode cX8_insert 71 = .ok (.getfield 33, 3) := by decide +kernel
theorem dX8_insert_74 : decode cX8_insert 74 = .ok (.iload_n 1, 1) := by decide +kernel
theorem dX8_insert_75 : decode cX8_insert 75 = .ok (.ifCond .ne 7, 3) := by decide +kernel
theorem dX8_insert_78 : decode cX8_insert 78 = .ok (.iconst 0, 1) := by decide +kernel
theorem dX8_insert_79 : decode cX8_insert 79 = .ok (.goto 11, 3) := by decide +kernel
theorem dX8_insert_82 : decode cX8_insert 82 = .ok (.aload_n 0, 1) := by decide +kernel
theorem dX8_insert_83 : decode cX8_insert 83 = .ok (.getfield 18, 3) := by decide +kernel
theorem dX8_insert_86 : decode cX8_insert 86 = .ok (.iload_n 1, 1) := by decide +kernel
theorem dX8_insert_87 : decode cX8_insert 87 = .ok (.iaload, 1) := by decide +kernel
theorem dX8_insert_88 : decode cX8_insert 88 = .ok (.iconst 1, 1) := by decide +kernel
theorem dX8_insert_89 : decode cX8_insert 89 = .ok (.iadd, 1) := by decide +kernel
theorem dX8_insert_90 : decode cX8_insert 90 = .ok (.iastore, 1) := by decide +kernel
theorem dX8_insert_91 : decode cX8_insert 91 = .ok (.aload_n 0, 1) := by decide +kernel
theorem dX8_insert_92 : decode cX8_insert 92 = .ok (.getfield 21, 3) := by decide +kernel
theorem dX8_insert_95 : decode cX8_insert 95 = .ok (.aload_n 0, 1) := by decide +kernel
theorem dX8_insert_96 : decode cX8_insert 96 = .ok (.getfield 33, 3) := by decide +kernel
theorem dX8_insert_99 : decode cX8_insert 99 = .ok (.lload_n 2, 1) := by decide +kernel
theorem dX8_insert_100 : decode cX8_insert 100 = .ok (.lastore, 1) := by decide +kernel
theorem dX8_insert_101 : decode cX8_insert 101 = .ok (.aload_n 0, 1) := by decide +kernel
theorem dX8_insert_102 : decode cX8_insert 102 = .ok (.getfield 9, 3) := by decide +kernel
theorem dX8_insert_105 : decode cX8_insert 105 = .ok (.iload 4, 2) := by decide +kernel
theorem dX8_insert_107 : decode cX8_insert 107 = .ok (.aload_n 0, 1) := by decide +kernel
theorem dX8_insert_108 : decode cX8_insert 108 = .ok (.getfield 9, 3) := by decide +kernel
theorem dX8_insert_111 : decode cX8_insert 111 = .ok (.iload 4, 2) := by decide +kernel
theorem dX8_insert_113 : decode cX8_insert 113 = .ok (.iconst 1, 1) := by decide +kernel
theorem dX8_insert_114 : decode cX8_insert 114 = .ok (.iadd, 1) := by decide +kernel
theorem dX8_insert_115 : decode cX8_insert 115 = .ok (.aload_n 0, 1) := by decide +kernel
theorem dX8_insert_116 : decode cX8_insert 116 = .ok (.getfield 25, 3) := by decide +kernel
theorem dX8_insert_119 : decode cX8_insert 119 = .ok (.iload 4, 2) := by decide +kernel
theorem dX8_insert_121 : decode cX8_insert 121 = .ok (.isub, 1) := by decide +kernel
theorem dX8_insert_122 : decode cX8_insert 122 = .ok (.invokestatic 39, 3) := by decide +kernel
theorem dX8_insert_125 : decode cX8_insert 125 = .ok (.aload_n 0, 1) := by decide +kernel
theorem dX8_insert_126 : decode cX8_insert 126 = .ok (.getfield 9, 3) := by decide +kernel
theorem dX8_insert_129 : decode cX8_insert 129 = .ok (.iload 4, 2) := by decide +kernel
theorem dX8_insert_131 : decode cX8_insert 131 = .ok (.aload_n 0, 1) := by decide +kernel
theorem dX8_insert_132 : decode cX8_insert 132 = .ok (.getfield 33, 3) := by decide +kernel
theorem dX8_insert_135 : decode cX8_insert 135 = .ok (.iastore, 1) := by decide +kernel
theorem dX8_insert_136 : decode cX8_insert 136 = .ok (.aload_n 0, 1) := by decide +kernel
theorem dX8_insert_137 : decode cX8_insert 137 = .ok (.dup, 1) := by decide +kernel
theorem dX8_insert_138 : decode cX8_insert 138 = .ok (.getfield 25, 3) := by decide +kernel
theorem dX8_insert_141 : decode cX8_insert 141 = .ok (.iconst 1, 1) := by decide +kernel
theorem dX8_insert_142 : decode cX8_insert 142 = .ok (.iadd, 1) := by decide +kernel
theorem dX8_insert_143 : decode cX8_insert 143 = .ok (.putfield 25, 3) := by decide +kernel
theorem dX8_insert_146 : decode cX8_insert 146 = .ok (.return_, 1) := by decide +kernel
set_option maxRecDepth 20000 in
theorem ggX8_delete_X8_find : GoodIn wsX8_delete wsX8_find := goodIn_r _ [11, 2, 1, 17, 18, 19, 20, 21, 22] (by decide +kernel) (by decide +kernel)
set_option maxRecDepth 20000 in
theorem gX8_delete_X8_find : GoodIn wsX8_delete (wsV RX8 29 RX8 yX8_find wsX8_find) := goodIn_app (goodIn_of _ (by decide +kernel)) ggX8_delete_X8_find
set_option maxRecDepth 20000 in
theorem ggX8_delete_X8_endOf : GoodIn wsX8_delete wsX8_endOf := goodIn_r _ [15, 16, 1, 2, 17, 18, 19, 20, 21, 22] (by decide +kernel) (by decide +kernel)
set_option maxRecDepth 20000 in
theorem gX8_delete_X8_endOf : GoodIn wsX8_delete (wsV RX8 36 RX8 yX8_endOf wsX8_endOf) := goodIn_app (goodIn_of _ (by decide +kernel)) ggX8_delete_X8_endOf
theorem dX8_delete_0 : decode cX8_delete 0 = .ok (.aload_n 0, 1) := by decide +kernel
theorem dX8_delete_1 : decode cX8_delete 1 = .ok (.iload_n 1, 1) := by decide +kernel
theorem dX8_delete_2 : decode cX8_delete 2 = .ok (.invokevirtual 29, 3) := by decide +kernel
theorem dX8_delete_5 : decode cX8_delete 5 = .ok (.istore_n 2, 1) := by decide +kernel
theorem dX8_delete_6 : decode cX8_delete 6 = .ok (.iload_n 2, 1) := by decide +kernel
theorem dX8_delete_7 : decode cX8_delete 7 = .ok (.iconst (-1), 1) := by decide +kernel
theorem dX8_delete_8 : decode cX8_delete 8 = .ok (.if_icmp .ne 4, 3) := by decide +kernel
theorem dX8_delete_11 : decode cX8_delete 11 = .ok (.return_, 1) := by decide +kernel
theorem dX8_delete_12 : decode cX8_delete 12 = .ok (.aload_n 0, 1) := by decide +kernel
theorem dX8_delete_13 : decode cX8_delete 13 = .ok (.iload_n 2, 1) := by decide +kernel
theorem dX8_delete_14 : decode cX8_delete 14 = .ok (.invokevirtual 36, 3) := by decide +kernel
theorem dX8_delete_17 : decode cX8_delete 17 = .ok (.istore_n 3, 1) := by decide +kernel
theorem dX8_delete_18 : decode cX8_delete 18 = .ok (.aload_n 0, 1) := by decide +kernel
theorem dX8_delete_19 : decode cX8_delete 19 = .ok (.getfield 9, 3) := by decide +kernel
theorem dX8_delete_22 : decode cX8_delete 22 = .ok (.iload_n 3, 1) := by decide +kernel
theorem dX8_delete_23 : decode cX8_delete 23 = .ok (.aload_n 0, 1) := by decide +kernel
theorem dX8_delete_24 : decode cX8_delete 24 = .ok (.getfield 9, 3) := by decide +kernel
theorem dX8_delete_27 : decode cX8_delete 27 = .ok (.iload_n 2, 1) := by decide +kernel
theorem dX8_delete_28 : decode cX8_delete 28 = .ok (.aload_n 0, 1) := by decide +kernel
theorem dX8_delete_29 : decode cX8_delete 29 = .ok (.getfield 25, 3) := by decide +kernel
theorem dX8_delete_32 : decode cX8_delete 32 = .ok (.iload_n 3, 1) := by decide +kernel
theorem dX8_delete_33 : decode cX8_delete 33 = .ok (.isub, 1) := by decide +kernel
theorem dX8_delete_34 : decode cX8_delete 34 = .ok (.invokestatic 39, 3) := by decide +kernel
theorem dX8_delete_37 : decode cX8_delete 37 = .ok (.aload_n 0, 1) := by decide +kernel
theorem dX8_delete_38 : decode cX8_delete 38 = .ok (.dup, 1) := by decide +kernel
theorem dX8_delete_39 : decode cX8_delete 39 = .ok (.getfield 25, 3) := by decide +kernel
theorem dX8_delete_42 : decode cX8_delete 42 = .ok (.iload_n 3, 1) := by decide +kernel
theorem dX8_delete_43 : decode cX8_delete 43 = .ok (.iload_n 2, 1) := by decide +kernel
theorem dX8_delete_44 : decode cX8_delete 44 = .ok (.isub, 1) := by decide +kernel
theorem dX8_delete_45 : decode cX8_delete 45 = .ok (.isub, 1) := by decide +kernel
theorem dX8_delete_46 : decode cX8_delete 46 = .ok (.putfield 25, 3) := by decide +kernel
theorem dX8_delete_49 : decode cX8_delete 49 = .ok (.return_, 1) := by decide +kernel
theorem dX8_find_0 : decode cX8_find 0 = .ok (.iconst 0, 1) := by decide +kernel
theorem dX8_find_1 : decode cX8_find 1 = .ok (.istore_n 2, 1) := by decide +kernel
theorem dX8_find_2 : decode cX8_find 2 = .ok (.iload_n 2, 1) := by decide +kernel
theorem dX8_find_3 : decode cX8_find 3 = .ok (.aload_n 0, 1) := by decide +kernel
theorem dX8_find_4 : decode cX8_find 4 = .ok (.getfield 25, 3) := by decide +kernel
theorem dX8_find_7 : decode cX8_find 7 = .ok (.if_icmp .ge 21, 3) := by decide +kernel
theorem dX8_find_10 : decode cX8_find 10 = .ok (.aload_n 0, 1) := by decide +kernel
theorem dX8_find_11 : decode cX8_find 11 = .ok (.getfield 9, 3) := by decide +kernel
theorem dX8_find_14 : decode cX8_find 14 = .ok (.iload_n 2, 1) := by decide +kernel
theorem dX8_find_15 : decode cX8_find 15 = .ok (.iaload, 1) := by decide +kernel
theorem dX8_find_16 : decode cX8_find 16 = .ok (.iload_n 1, 1) := by decide +kernel
theorem dX8_find_17 : decode cX8_find 17 = .ok (.if_icmp .ne 5, 3) := by decide +kernel
theorem dX8_find_20 : decode cX8_find 20 = .ok (.iload_n 2, 1) := by decide +kernel
theorem dX8_find_21 : decode cX8_find 21 = .ok (.ireturn, 1) := by decide +kernel
theorem dX8_find_22 : decode cX8_find 22 = .ok (.iinc 2 1, 3) := by decide +kernel
theorem dX8_find_25 : decode cX8_find 25 = .ok (.goto (-23), 3) := by decide +kernel
theorem dX8_find_28 : decode cX8_find 28 = .ok (.iconst (-1), 1) := by decide +kernel
theorem dX8_find_29 : decode cX8_find 29 = .ok (.ireturn, 1) := by decide +kernel
theorem dX8_endOf_0 : decode cX8_endOf 0 = .ok (.aload_n 0, 1) := by decide +kernel
theorem dX8_endOf_1 : decode cX8_endOf 1 = .ok (.getfield 18, 3) := by decide +kernel
theorem dX8_endOf_4 : decode cX8_endOf 4 = .ok (.aload_n 0, 1) := by decide +kernel
theorem dX8_endOf_5 : decode cX8_endOf 5 = .ok (.getfield 9, 3) := by decide +kernel
theorem dX8_endOf_8 : decode cX8_endOf 8 = .ok (.iload_n 1, 1) := by decide +kernel
theorem dX8_endOf_9 : decode cX8_endOf 9 = .ok (.iaload, 1) := by decide +kernel
theorem dX8_endOf_10 : decode cX8_endOf 10 = .ok (.iaload, 1) := by decide +kernel
theorem dX8_endOf_11 : decode cX8_endOf 11 = .ok (.istore_n 2, 1) := by decide +kernel
theorem dX8_endOf_12 : decode cX8_endOf 12 = .ok (.iload_n 1, 1) := by decide +kernel
theorem dX8_endOf_13 : decode cX8_endOf 13 = .ok (.iconst 1, 1) := by decide +kernel
theorem dX8_endOf_14 : decode cX8_endOf 14 = .ok (.iadd, 1) := by decide +kernel
theorem dX8_endOf_15 : decode cX8_endOf 15 = .ok (.istore_n 3, 1) := by decide +kernel
theorem dX8_endOf_16 : decode cX8_endOf 16 = .ok (.iload_n 3, 1) := by decide +kernel
theorem dX8_endOf_17 : decode cX8_endOf 17 = .ok (.aload_n 0, 1) := by decide +kernel
theorem dX8_endOf_18 : decode cX8_endOf 18 = .ok (.getfield 25, 3) := by decide +kernel
theorem dX8_endOf_21 : decode cX8_endOf 21 = .ok (.if_icmp .ge 24, 3) := by decide +kernel
theorem dX8_endOf_24 : decode cX8_endOf 24 = .ok (.aload_n 0, 1) := by decide +kernel
theorem dX8_endOf_25 : decode cX8_endOf 25 = .ok (.getfield 18, 3) := by decide +kernel
theorem dX8_endOf_28 : decode cX8_endOf 28 = .ok (.aload_n 0, 1) := by decide +kernel
theorem dX8_endOf_29 : decode cX8_endOf 29 = .ok (.getfield 9, 3) := by decide +kernel
theorem dX8_endOf_32 : decode cX8_endOf 32 = .ok (.iload_n 3, 1) := by decide +kernel
theorem dX8_endOf_33 : decode cX8_endOf 33 = .ok (.iaload, 1) := by decide +kernel
theorem dX8_endOf_34 : decode cX8_endOf 34 = .ok (.iaload, 1) := by decide +kernel
theorem dX8_endOf_35 : decode cX8_endOf 35 = .ok (.iload_n 2, 1) := by decide +kernel
theorem dX8_endOf_36 : decode cX8_endOf 36 = .ok (.if_icmp .le 9, 3) := by decide +kernel
theorem dX8_endOf_39 : decode cX8_endOf 39 = .ok (.iinc 3 1, 3) := by decide +kernel
theorem dX8_endOf_42 : decode cX8_endOf 42 = .ok (.goto (-26), 3) := by decide +kernel
theorem dX8_endOf_45 : decode cX8_endOf 45 = .ok (.iload_n 3, 1) := by decide +kernel
theorem dX8_endOf_46 : decode cX8_endOf 46 = .ok (.ireturn, 1) := by decide +kernel
theorem dJx00060_init_da8c8_0 : decode cJx00060_init_da8c8 0 = .ok (.aload_n 0, 1) := by decide +kernel
theorem dJx00060_init_da8c8_1 : decode cJx00060_init_da8c8 1 = .ok (.invokespecial 1, 3) := by decide +kernel
theorem dJx00060_init_da8c8_4 : decode cJx00060_init_da8c8 4 = .ok (.return_, 1) := by decide +kernel
theorem dJ9_abs_067f4_0 : decode cJ9_abs_067f4 0 = .ok (.lload_n 0, 1) := by decide +kernel
theorem dJ9_abs_067f4_1 : decode cJ9_abs_067f4 1 = .ok (.lconst 0, 1) := by decide +kernel
theorem dJ9_abs_067f4_2 : decode cJ9_abs_067f4 2 = .ok (.lcmp, 1) := by decide +kernel
theorem dJ9_abs_067f4_3 : decode cJ9_abs_067f4 3 = .ok (.ifCond .ge 8, 3) := by decide +kernel
theorem dJ9_abs_067f4_6 : decode cJ9_abs_067f4 6 = .ok (.lload_n 0, 1) := by decide +kernel
theorem dJ9_abs_067f4_7 : decode cJ9_abs_067f4 7 = .ok (.lneg, 1) := by decide +kernel
theorem dJ9_abs_067f4_8 : decode cJ9_abs_067f4 8 = .ok (.goto 4, 3) := by decide +kernel
theorem dJ9_abs_067f4_11 : decode cJ9_abs_067f4 11 = .ok (.lload_n 0, 1) := by decide +kernel
theorem dJ9_abs_067f4_12 : decode cJ9_abs_067f4 12 = .ok (.lreturn, 1) := by decide +kernel
theorem dJ9_max_7cf53_0 : decode cJ9_max_7cf53 0 = .ok (.iload_n 0, 1) := by decide +kernel
theorem dJ9_max_7cf53_1 : decode cJ9_max_7cf53 1 = .ok (.iload_n 1, 1) := by decide +kernel
theorem dJ9_max_7cf53_2 : decode cJ9_max_7cf53 2 = .ok (.if_icmp .lt 7, 3) := by decide +kernel
theorem dJ9_max_7cf53_5 : decode cJ9_max_7cf53 5 = .ok (.iload_n 0, 1) := by decide +kernel
theorem dJ9_max_7cf53_6 : decode cJ9_max_7cf53 6 = .ok (.goto 4, 3) := by decide +kernel
theorem dJ9_max_7cf53_9 : decode cJ9_max_7cf53 9 = .ok (.iload_n 1, 1) := by decide +kernel
theorem dJ9_max_7cf53_10 : decode cJ9_max_7cf53 10 = .ok (.ireturn, 1) := by decide +kernel
theorem dJ9_max_f86c9_0 : decode cJ9_max_f86c9 0 = .ok (.lload_n 0, 1) := by decide +kernel
theorem dJ9_max_f86c9_1 : decode cJ9_max_f86c9 1 = .ok (.lload_n 2, 1) := by decide +kernel
theorem dJ9_max_f86c9_2 : decode cJ9_max_f86c9 2 = .ok (.lcmp, 1) := by decide +kernel
theorem dJ9_max_f86c9_3 : decode cJ9_max_f86c9 3 = .ok (.ifCond .lt 7, 3) := by decide +kernel
theorem dJ9_max_f86c9_6 : decode cJ9_max_f86c9 6 = .ok (.lload_n 0, 1) := by decide +kernel
theorem dJ9_max_f86c9_7 : decode cJ9_max_f86c9 7 = .ok (.goto 4, 3) := by decide +kernel
theorem dJ9_max_f86c9_10 : decode cJ9_max_f86c9 10 = .ok (.lload_n 2, 1) := by decide +kernel
theorem dJ9_max_f86c9_11 : decode cJ9_max_f86c9 11 = .ok (.lreturn, 1) := by decide +kernel
theorem dJ9_min_7cf53_0 : decode cJ9_min_7cf53 0 = .ok (.iload_n 0, 1) := by decide +kernel
theorem dJ9_min_7cf53_1 : decode cJ9_min_7cf53 1 = .ok (.iload_n 1, 1) := by decide +kernel
theorem dJ9_min_7cf53_2 : decode cJ9_min_7cf53 2 = .ok (.if_icmp .gt 7, 3) := by decide +kernel
theorem dJ9_min_7cf53_5 : decode cJ9_min_7cf53 5 = .ok (.iload_n 0, 1) := by decide +kernel
theorem dJ9_min_7cf53_6 : decode cJ9_min_7cf53 6 = .ok (.goto 4, 3) := by decide +kernel
theorem dJ9_min_7cf53_9 : decode cJ9_min_7cf53 9 = .ok (.iload_n 1, 1) := by decide +kernel
theorem dJ9_min_7cf53_10 : decode cJ9_min_7cf53 10 = .ok (.ireturn, 1) := by decide +kernel
theorem dJ9_min_f86c9_0 : decode cJ9_min_f86c9 0 = .ok (.lload_n 0, 1) := by decide +kernel
theorem dJ9_min_f86c9_1 : decode cJ9_min_f86c9 1 = .ok (.lload_n 2, 1) := by decide +kernel
theorem dJ9_min_f86c9_2 : decode cJ9_min_f86c9 2 = .ok (.lcmp, 1) := by decide +kernel
theorem dJ9_min_f86c9_3 : decode cJ9_min_f86c9 3 = .ok (.ifCond .gt 7, 3) := by decide +kernel
theorem dJ9_min_f86c9_6 : decode cJ9_min_f86c9 6 = .ok (.lload_n 0, 1) := by decide +kernel
theorem dJ9_min_f86c9_7 : decode cJ9_min_f86c9 7 = .ok (.goto 4, 3) := by decide +kernel
theorem dJ9_min_f86c9_10 : decode cJ9_min_f86c9 10 = .ok (.lload_n 2, 1) := by decide +kernel
theorem dJ9_min_f86c9_11 : decode cJ9_min_f86c9 11 = .ok (.lreturn, 1) := by decide +kernel
