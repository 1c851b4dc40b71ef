theorem dX11_init_0 : decode cX11_init 0 = .ok (.aload_n 0, 1) := by decide +kernel
theorem dX11_init_1 : decode cX11_init 1 = .ok (.invokespecial 1, 3) := by decide +kernel
theorem dX11_init_4 : decode cX11_init 4 = .ok (.aload_n 0, 1) := by decide +kernel
theorem dX11_init_5 : decode cX11_init 5 = .ok (.bipush 61, 2) := by decide +kernel
theorem dX11_init_7 : decode cX11_init 7 = .ok (.newarray .int, 2) := by decide +kernel
theorem dX11_init_9 : decode cX11_init 9 = .ok (.putfield 7, 3) := by decide +kernel
theorem dX11_init_12 : decode cX11_init 12 = .ok (.aload_n 0, 1) := by decide +kernel
theorem dX11_init_13 : decode cX11_init 13 = .ok (.bipush 61, 2) := by decide +kernel
theorem dX11_init_15 : decode cX11_init 15 = .ok (.newarray .long, 2) := by decide +kernel
theorem dX11_init_17 : decode cX11_init 17 = .ok (.putfield 13, 3) := by decide +kernel
theorem dX11_init_20 : decode cX11_init 20 = .ok (.aload_n 0, 1) := by decide +kernel
theorem dX11_init_21 : decode cX11_init 21 = .ok (.bipush 61, 2) := by decide +kernel
theorem dX11_init_23 : decode cX11_init 23 = .ok (.newarray .long, 2) := by decide +kernel
theorem dX11_init_25 : decode cX11_init 25 = .ok (.putfield 17, 3) := by decide +kernel
theorem dX11_init_28 : decode cX11_init 28 = .ok (.aload_n 0, 1) := by decide +kernel
theorem dX11_init_29 : decode cX11_init 29 = .ok (.sipush 201, 3) := by decide +kernel
theorem dX11_init_32 : decode cX11_init 32 = .ok (.newarray .int, 2) := by decide +kernel
theorem dX11_init_34 : decode cX11_init 34 = .ok (.putfield 20, 3) := by decide +kernel
theorem dX11_init_37 : decode cX11_init 37 = .ok (.aload_n 0, 1) := by decide +kernel
theorem dX11_init_38 : decode cX11_init 38 = .ok (.sipush 201, 3) := by decide +kernel
theorem dX11_init_41 : decode cX11_init 41 = .ok (.newarray .int, 2) := by decide +kernel
theorem dX11_init_43 : decode cX11_init 43 = .ok (.putfield 23, 3) := by decide +kernel
theorem dX11_init_46 : decode cX11_init 46 = .ok (.aload_n 0, 1) := by decide +kernel
theorem dX11_init_47 : decode cX11_init 47 = .ok (.sipush 201, 3) := by decide +kernel
theorem dX11_init_50 : decode cX11_init 50 = .ok (.newarray .int, 2) := by decide +kernel
theorem dX11_init_52 : decode cX11_init 52 = .ok (.putfield 26, 3) := by decide +kernel
theorem dX11_init_55 : decode cX11_init 55 = .ok (.aload_n 0, 1) := by decide +kernel
theorem dX11_init_56 : decode cX11_init 56 = .ok (.sipush 900, 3) := by decide +kernel
theorem dX11_init_59 : decode cX11_init 59 = .ok (.newarray .int, 2) := by decide +kernel
theorem dX11_init_61 : decode cX11_init 61 = .ok (.putfield 29, 3) := by decide +kernel
theorem dX11_init_64 : decode cX11_init 64 = .ok (.aload_n 0, 1) := by decide +kernel
theorem dX11_init_65 : decode cX11_init 65 = .ok (.bipush 9, 2) := by decide +kernel
theorem dX11_init_67 : decode cX11_init 67 = .ok (.newarray .int, 2) := by decide +kernel
theorem dX11_init_69 : decode cX11_init 69 = .ok (.putfield 32, 3) := by decide +kernel
theorem dX11_init_72 : decode cX11_init 72 = .ok (.aload_n 0, 1) := by decide +kernel
theorem dX11_init_73 : decode cX11_init 73 = .ok (.sipush 1400, 3) := by decide +kernel
theorem dX11_init_76 : decode cX11_init 76 = .ok (.newarray .int, 2) := by decide +kernel
theorem dX11_init_78 : decode cX11_init 78 = .ok (.putfield 35, 3) := by decide +kernel
theorem dX11_init_81 : decode cX11_init 81 = .ok (.aload_n 0, 1) := by decide +kernel
theorem dX11_init_82 : decode cX11_init 82 = .ok (.sipush 1400, 3) := by decide +kernel
theorem dX11_init_85 : decode cX11_init 85 = .ok (.newarray .long, 2) := by decide +kernel
theorem dX11_init_87 : decode cX11_init 87 = .ok (.putfield 38, 3) := by decide +kernel
theorem dX11_init_90 : decode cX11_init 90 = .ok (.aload_n 0, 1) := by decide +kernel
theorem dX11_init_91 : decode cX11_init 91 = .ok (.sipush 1400, 3) := by decide +kernel
theorem dX11_init_94 : decode cX11_init 94 = .ok (.newarray .long, 2) := by decide +kernel
theorem dX11_init_96 : decode cX11_init 96 = .ok (.putfield 41, 3) := by decide +kernel
theorem dX11_init_99 : decode cX11_init 99 = .ok (.aload_n 0, 1) := by decide +kernel
theorem dX11_init_100 : decode cX11_init 100 = .ok (.sipush 1000, 3) := by decide +kernel
theorem dX11_init_103 : decode cX11_init 103 = .ok (.newarray .long, 2) := by decide +kernel
theorem dX11_init_105 : decode cX11_init 105 = .ok (.putfield 44, 3) := by decide +kernel
theorem dX11_init_108 : decode cX11_init 108 = .ok (.aload_n 0, 1) := by decide +kernel
theorem dX11_init_109 : decode cX11_init 109 = .ok (.sipush 1000, 3) := by decide +kernel
theorem dX11_init_112 : decode cX11_init 112 = .ok (.newarray .long, 2) := by decide +kernel
theorem dX11_init_114 : decode cX11_init 114 = .ok (.putfield 47, 3) := by decide +kernel
theorem dX11_init_117 : decode cX11_init 117 = .ok (.aload_n 0, 1) := by decide +kernel
theorem dX11_init_118 : decode cX11_init 118 = .ok (.bipush 101, 2) := by decide +kernel
theorem dX11_init_120 : decode cX11_init 120 = .ok (.newarray .int, 2) := by decide +kernel
theorem dX11_init_122 : decode cX11_init 122 = .ok (.putfield 50, 3) := by decide +kernel
theorem dX11_init_125 : decode cX11_init 125 = .ok (.aload_n 0, 1) := by decide +kernel
theorem dX11_init_126 : decode cX11_init 126 = .ok (.bipush 101, 2) := by decide +kernel
theorem dX11_init_128 : decode cX11_init 128 = .ok (.newarray .boolean, 2) := by decide +kernel
theorem dX11_init_130 : decode cX11_init 130 = .ok (.putfield 53, 3) := by decide +kernel
theorem dX11_init_133 : decode cX11_init 133 = .ok (.aload_n 0, 1) := by decide +kernel
theorem dX11_init_134 : decode cX11_init 134 = .ok (.bipush 101, 2) := by decide +kernel
theorem dX11_init_136 : decode cX11_init 136 = .ok (.newarray .long, 2) := by decide +kernel
theorem dX11_init_138 : decode cX11_init 138 = .ok (.putfield 57, 3) := by decide +kernel
theorem dX11_init_141 : decode cX11_init 141 = .ok (.aload_n 0, 1) := by decide +kernel
theorem dX11_init_142 : decode cX11_init 142 = .ok (.bipush 101, 2) := by decide +kernel
theorem dX11_init_144 : decode cX11_init 144 = .ok (.newarray .int, 2) := by decide +kernel
theorem dX11_init_146 : decode cX11_init 146 = .ok (.putfield 60, 3) := by decide +kernel
theorem dX11_init_149 : decode cX11_init 149 = .ok (.aload_n 0, 1) := by decide +kernel
theorem dX11_init_150 : decode cX11_init 150 = .ok (.bipush 101, 2) := by decide +kernel
theorem dX11_init_152 : decode cX11_init 152 = .ok (.newarray .int, 2) := by decide +kernel
theorem dX11_init_154 : decode cX11_init 154 = .ok (.putfield 63, 3) := by decide +kernel
theorem dX11_init_157 : decode cX11_init 157 = .ok (.aload_n 0, 1) := by decide +kernel
theorem dX11_init_158 : decode cX11_init 158 = .ok (.sipush 1920, 3) := by decide +kernel
theorem dX11_init_161 : decode cX11_init 161 = .ok (.newarray .int, 2) := by decide +kernel
theorem dX11_init_163 : decode cX11_init 163 = .ok (.putfield 66, 3) := by decide +kernel
theorem dX11_init_166 : decode cX11_init 166 = .ok (.aload_n 0, 1) := by decide +kernel
theorem dX11_init_167 : decode cX11_init 167 = .ok (.lload_n 1, 1) := by decide +kernel
theorem dX11_init_168 : decode cX11_init 168 = .ok (.lconst 1, 1) := by decide +kernel
theorem dX11_init_169 : decode cX11_init 169 = .ok (.lcmp, 1) := by decide +kernel
theorem dX11_init_170 : decode cX11_init 170 = .ok (.ifCond .ge 7, 3) := by decide +kernel
theorem dX11_init_173 : decode cX11_init 173 = .ok (.iconst 1, 1) := by decide +kernel
theorem dX11_init_174 : decode cX11_init 174 = .ok (.goto 19, 3) := by decide +kernel
theorem dX11_init_177 : decode cX11_init 177 = .ok (.lload_n 1, 1) := by decide +kernel
theorem dX11_init_178 : decode cX11_init 178 = .ok (.ldc2_w 69, 3) := by decide +kernel
theorem dX11_init_181 : decode cX11_init 181 = .ok (.lcmp, 1) := by decide +kernel
theorem dX11_init_182 : decode cX11_init 182 = .ok (.ifCond .le 9, 3) := by decide +kernel
theorem dX11_init_185 : decode cX11_init 185 = .ok (.sipush 5000, 3) := by decide +kernel
theorem dX11_init_188 : decode cX11_init 188 = .ok (.goto 5, 3) := by decide +kernel
theorem dX11_init_191 : decode cX11_init 191 = .ok (.lload_n 1, 1) := by decide +kernel
theorem dX11_init_192 : decode cX11_init 192 = .ok (.l2i, 1) := by decide +kernel
theorem dX11_init_193 : decode cX11_init 193 = .ok (.putfield 71, 3) := by decide +kernel
theorem dX11_init_196 : decode cX11_init 196 = .ok (.return_, 1) := by decide +kernel
theorem dX11_thrown_0 : decode cX11_thrown 0 = .ok (.aload_n 0, 1) := by decide +kernel
theorem dX11_thrown_1 : decode cX11_thrown 1 = .ok (.getfield 75, 3) := by decide +kernel
theorem dX11_thrown_4 : decode cX11_thrown 4 = .ok (.ireturn, 1) := by decide +kernel
theorem dX11_refuse_0 : decode cX11_refuse 0 = .ok (.aload_n 0, 1) := by decide +kernel
theorem dX11_refuse_1 : decode cX11_refuse 1 = .ok (.dup, 1) := by decide +kernel
theorem dX11_refuse_2 : decode cX11_refuse 2 = .ok (.getfield 78, 3) := by decide +kernel
theorem dX11_refuse_5 : decode cX11_refuse 5 = .ok (.iconst 1, 1) := by decide +kernel
theorem dX11_refuse_6 : decode cX11_refuse 6 = .ok (.iadd, 1) := by decide +kernel
theorem dX11_refuse_7 : decode cX11_refuse 7 = .ok (.putfield 78, 3) := by decide +kernel
theorem dX11_refuse_10 : decode cX11_refuse 10 = .ok (.iload_n 1, 1) := by decide +kernel
theorem dX11_refuse_11 : decode cX11_refuse 11 = .ok (.ireturn, 1) := by decide +kernel
theorem dX11_power_0 : decode cX11_power 0 = .ok (.lconst 1, 1) := by decide +kernel
theorem dX11_power_1 : decode cX11_power 1 = .ok (.lstore_n 1, 1) := by decide +kernel
theorem dX11_power_2 : decode cX11_power 2 = .ok (.iconst 0, 1) := by decide +kernel
theorem dX11_power_3 : decode cX11_power 3 = .ok (.istore_n 3, 1) := by decide +kernel
theorem dX11_power_4 : decode cX11_power 4 = .ok (.iload_n 3, 1) := by decide +kernel
theorem dX11_power_5 : decode cX11_power 5 = .ok (.iload_n 0, 1) := by decide +kernel
theorem dX11_power_6 : decode cX11_power 6 = .ok (.if_icmp .ge 15, 3) := by decide +kernel
theorem dX11_power_9 : decode cX11_power 9 = .ok (.lload_n 1, 1) := by decide +kernel
theorem dX11_power_10 : decode cX11_power 10 = .ok (.ldc2_w 81, 3) := by decide +kernel
theorem dX11_power_13 : decode cX11_power 13 = .ok (.lmul, 1) := by decide +kernel
theorem dX11_power_14 : decode cX11_power 14 = .ok (.lstore_n 1, 1) := by decide +kernel
theorem dX11_power_15 : decode cX11_power 15 = .ok (.iinc 3 1, 3) := by decide +kernel
theorem dX11_power_18 : decode cX11_power 18 = .ok (.goto (-14), 3) := by decide +kernel
theorem dX11_power_21 : decode cX11_power 21 = .ok (.lload_n 1, 1) := by decide +kernel
theorem dX11_power_22 : decode cX11_power 22 = .ok (.lreturn, 1) := by decide +kernel
theorem dX11_isCell_0 : decode cX11_isCell 0 = .ok (.iload_n 1, 1) := by decide +kernel
theorem dX11_isCell_1 : decode cX11_isCell 1 = .ok (.iconst 1, 1) := by decide +kernel
theorem dX11_isCell_2 : decode cX11_isCell 2 = .ok (.if_icmp .lt 15, 3) := by decide +kernel
theorem dX11_isCell_5 : decode cX11_isCell 5 = .ok (.iload_n 1, 1) := by decide +kernel
theorem dX11_isCell_6 : decode cX11_isCell 6 = .ok (.aload_n 0, 1) := by decide +kernel
theorem dX11_isCell_7 : decode cX11_isCell 7 = .ok (.getfield 83, 3) := by decide +kernel
theorem dX11_isCell_10 : decode cX11_isCell 10 = .ok (.if_icmp .gt 7, 3) := by decide +kernel
theorem dX11_isCell_13 : decode cX11_isCell 13 = .ok (.iconst 1, 1) := by decide +kernel
theorem dX11_isCell_14 : decode cX11_isCell 14 = .ok (.goto 4, 3) := by decide +kernel
theorem dX11_isCell_17 : decode cX11_isCell 17 = .ok (.iconst 0, 1) := by decide +kernel
theorem dX11_isCell_18 : decode cX11_isCell 18 = .ok (.ireturn, 1) := by decide +kernel
theorem dX11_isNode_0 : decode cX11_isNode 0 = .ok (.iload_n 1, 1) := by decide +kernel
theorem dX11_isNode_1 : decode cX11_isNode 1 = .ok (.iconst 1, 1) := by decide +kernel
theorem dX11_isNode_2 : decode cX11_isNode 2 = .ok (.if_icmp .lt 15, 3) := by decide +kernel
theorem dX11_isNode_5 : decode cX11_isNode 5 = .ok (.iload_n 1, 1) := by decide +kernel
theorem dX11_isNode_6 : decode cX11_isNode 6 = .ok (.aload_n 0, 1) := by decide +kernel
theorem dX11_isNode_7 : decode cX11_isNode 7 = .ok (.getfield 86, 3) := by decide +kernel
theorem dX11_isNode_10 : decode cX11_isNode 10 = .ok (.if_icmp .gt 7, 3) := by decide +kernel
theorem dX11_isNode_13 : decode cX11_isNode 13 = .ok (.iconst 1, 1) := by decide +kernel
theorem dX11_isNode_14 : decode cX11_isNode 14 = .ok (.goto 4, 3) := by decide +kernel
theorem dX11_isNode_17 : decode cX11_isNode 17 = .ok (.iconst 0, 1) := by decide +kernel
theorem dX11_isNode_18 : decode cX11_isNode 18 = .ok (.ireturn, 1) := by decide +kernel
set_option maxRecDepth 20000 in
theorem ggX11_cell_X11_refuse : GoodIn wsX11_cell wsX11_refuse := goodIn_r _ [9, 10, 15, 16, 17, 18, 19, 20, 21, 22, 23, 24, 25, 26, 27, 28, 29, 30, 31, 32, 33, 34, 35, 36, 37, 38, 39, 40, 41, 42, 43, 44, 45] (by decide +kernel) (by decide +kernel)
set_option maxRecDepth 20000 in
theorem gX11_cell_X11_refuse : GoodIn wsX11_cell (wsV RX11 89 RX11 yX11_refuse wsX11_refuse) := goodIn_app (goodIn_of _ (by decide +kernel)) ggX11_cell_X11_refuse
set_option maxRecDepth 20000 in
theorem ggX11_cell_X11_power : GoodIn wsX11_cell wsX11_power := goodIn_r _ [13, 14] (by decide +kernel) (by decide +kernel)
set_option maxRecDepth 20000 in
theorem gX11_cell_X11_power : GoodIn wsX11_cell (va_wsS RX11 93 yX11_power wsX11_power) := goodIn_app (goodIn_of _ (by decide +kernel)) ggX11_cell_X11_power
theorem dX11_cell_0 : decode cX11_cell 0 = .ok (.aload_n 0, 1) := by decide +kernel
theorem dX11_cell_1 : decode cX11_cell 1 = .ok (.iconst 0, 1) := by decide +kernel
theorem dX11_cell_2 : decode cX11_cell 2 = .ok (.putfield 75, 3) := by decide +kernel
theorem dX11_cell_5 : decode cX11_cell 5 = .ok (.iload_n 1, 1) := by decide +kernel
theorem dX11_cell_6 : decode cX11_cell 6 = .ok (.iconst 1, 1) := by decide +kernel
theorem dX11_cell_7 : decode cX11_cell 7 = .ok (.if_icmp .lt 9, 3) := by decide +kernel
theorem dX11_cell_10 : decode cX11_cell 10 = .ok (.iload_n 1, 1) := by decide +kernel
theorem dX11_cell_11 : decode cX11_cell 11 = .ok (.bipush 18, 2) := by decide +kernel
theorem dX11_cell_13 : decode cX11_cell 13 = .ok (.if_icmp .le 10, 3) := by decide +kernel
theorem dX11_cell_16 : decode cX11_cell 16 = .ok (.aload_n 0, 1) := by decide +kernel
theorem dX11_cell_17 : decode cX11_cell 17 = .ok (.bipush (-4), 2) := by decide +kernel
theorem dX11_cell_19 : decode cX11_cell 19 = .ok (.invokevirtual 89, 3) := by decide +kernel
theorem dX11_cell_22 : decode cX11_cell 22 = .ok (.ireturn, 1) := by decide +kernel
theorem dX11_cell_23 : decode cX11_cell 23 = .ok (.aload_n 0, 1) := by decide +kernel
theorem dX11_cell_24 : decode cX11_cell 24 = .ok (.getfield 83, 3) := by decide +kernel
theorem dX11_cell_27 : decode cX11_cell 27 = .ok (.bipush 60, 2) := by decide +kernel
theorem dX11_cell_29 : decode cX11_cell 29 = .ok (.if_icmp .ne 9, 3) := by decide +kernel
theorem dX11_cell_32 : decode cX11_cell 32 = .ok (.aload_n 0, 1) := by decide +kernel
theorem dX11_cell_33 : decode cX11_cell 33 = .ok (.iconst (-1), 1) := by decide +kernel
theorem dX11_cell_34 : decode cX11_cell 34 = .ok (.invokevirtual 89, 3) := by decide +kernel
theorem dX11_cell_37 : decode cX11_cell 37 = .ok (.ireturn, 1) := by decide +kernel
theorem dX11_cell_38 : decode cX11_cell 38 = .ok (.aload_n 0, 1) := by decide +kernel
theorem dX11_cell_39 : decode cX11_cell 39 = .ok (.dup, 1) := by decide +kernel
theorem dX11_cell_40 : decode cX11_cell 40 = .ok (.getfield 83, 3) := by decide +kernel
theorem dX11_cell_43 : decode cX11_cell 43 = .ok (.iconst 1, 1) := by decide +kernel
theorem dX11_cell_44 : decode cX11_cell 44 = .ok (.iadd, 1) := by decide +kernel
theorem dX11_cell_45 : decode cX11_cell 45 = .ok (.putfield 83, 3) := by decide +kernel
theorem dX11_cell_48 : decode cX11_cell 48 = .ok (.aload_n 0, 1) := by decide +kernel
theorem dX11_cell_49 : decode cX11_cell 49 = .ok (.getfield 7, 3) := by decide +kernel
theorem dX11_cell_52 : decode cX11_cell 52 = .ok (.aload_n 0, 1) := by decide +kernel
theorem dX11_cell_53 : decode cX11_cell 53 = .ok (.getfield 83, 3) := by decide +kernel
theorem dX11_cell_56 : decode cX11_cell 56 = .ok (.iload_n 1, 1) := by decide +kernel
theorem dX11_cell_57 : decode cX11_cell 57 = .ok (.iastore, 1) := by decide +kernel
theorem dX11_cell_58 : decode cX11_cell 58 = .ok (.aload_n 0, 1) := by decide +kernel
theorem dX11_cell_59 : decode cX11_cell 59 = .ok (.getfield 13, 3) := by decide +kernel
theorem dX11_cell_62 : decode cX11_cell 62 = .ok (.aload_n 0, 1) := by decide +kernel
theorem dX11_cell_63 : decode cX11_cell 63 = .ok (.getfield 83, 3) := by decide +kernel
theorem dX11_cell_66 : decode cX11_cell 66 = .ok (.lload_n 2, 1) := by decide +kernel
theorem dX11_cell_67 : decode cX11_cell 67 = .ok (.iload_n 1, 1) := by decide +kernel
theorem dX11_cell_68 : decode cX11_cell 68 = .ok (.invokestatic 93, 3) := by decide +kernel
theorem dX11_cell_71 : decode cX11_cell 71 = .ok (.lrem, 1) := by decide +kernel
theorem dX11_cell_72 : decode cX11_cell 72 = .ok (.lastore, 1) := by decide +kernel
theorem dX11_cell_73 : decode cX11_cell 73 = .ok (.aload_n 0, 1) := by decide +kernel
theorem dX11_cell_74 : decode cX11_cell 74 = .ok (.getfield 83, 3) := by decide +kernel
theorem dX11_cell_77 : decode cX11_cell 77 = .ok (.ireturn, 1) := by decide +kernel
theorem dX11_isPlace_0 : decode cX11_isPlace 0 = .ok (.lload_n 0, 1) := by decide +kernel
theorem dX11_isPlace_1 : decode cX11_isPlace 1 = .ok (.ldc2_w 97, 3) := by decide +kernel
theorem dX11_isPlace_4 : decode cX11_isPlace 4 = .ok (.lcmp, 1) := by decide +kernel
theorem dX11_isPlace_5 : decode cX11_isPlace 5 = .ok (.ifCond .lt 41, 3) := by decide +kernel
theorem dX11_isPlace_8 : decode cX11_isPlace 8 = .ok (.lload_n 0, 1) := by decide +kernel
theorem dX11_isPlace_9 : decode cX11_isPlace 9 = .ok (.ldc2_w 97, 3) := by decide +kernel
theorem dX11_isPlace_12 : decode cX11_isPlace 12 = .ok (.ldiv, 1) := by decide +kernel
theorem dX11_isPlace_13 : decode cX11_isPlace 13 = .ok (.ldc2_w 99, 3) := by decide +kernel
theorem dX11_isPlace_16 : decode cX11_isPlace 16 = .ok (.lcmp, 1) := by decide +kernel
theorem dX11_isPlace_17 : decode cX11_isPlace 17 = .ok (.ifCond .gt 29, 3) := by decide +kernel
theorem dX11_isPlace_20 : decode cX11_isPlace 20 = .ok (.lload_n 0, 1) := by decide +kernel
theorem dX11_isPlace_21 : decode cX11_isPlace 21 = .ok (.ldc2_w 97, 3) := by decide +kernel
theorem dX11_isPlace_24 : decode cX11_isPlace 24 = .ok (.lrem, 1) := by decide +kernel
theorem dX11_isPlace_25 : decode cX11_isPlace 25 = .ok (.lconst 1, 1) := by decide +kernel
theorem dX11_isPlace_26 : decode cX11_isPlace 26 = .ok (.lcmp, 1) := by decide +kernel
theorem dX11_isPlace_27 : decode cX11_isPlace 27 = .ok (.ifCond .lt 19, 3) := by decide +kernel
theorem dX11_isPlace_30 : decode cX11_isPlace 30 = .ok (.lload_n 0, 1) := by decide +kernel
theorem dX11_isPlace_31 : decode cX11_isPlace 31 = .ok (.ldc2_w 97, 3) := by decide +kernel
theorem dX11_isPlace_34 : decode cX11_isPlace 34 = .ok (.lrem, 1) := by decide +kernel
theorem dX11_isPlace_35 : decode cX11_isPlace 35 = .ok (.ldc2_w 101, 3) := by decide +kernel
theorem dX11_isPlace_38 : decode cX11_isPlace 38 = .ok (.lcmp, 1) := by decide +kernel
theorem dX11_isPlace_39 : decode cX11_isPlace 39 = .ok (.ifCond .gt 7, 3) := by decide +kernel
theorem dX11_isPlace_42 : decode cX11_isPlace 42 = .ok (.iconst 1, 1) := by decide +kernel
theorem dX11_isPlace_43 : decode cX11_isPlace 43 = .ok (.goto 4, 3) := by decide +kernel
theorem dX11_isPlace_46 : decode cX11_isPlace 46 = .ok (.iconst 0, 1) := by decide +kernel
theorem dX11_isPlace_47 : decode cX11_isPlace 47 = .ok (.ireturn, 1) := by decide +kernel
set_option maxRecDepth 20000 in
theorem ggX11_node_X11_isCell : GoodIn wsX11_node wsX11_isCell := goodIn_r _ [10, 11, 27, 28, 29, 30, 31, 32, 33, 34, 35, 36, 37, 38, 39, 40, 41, 42, 43, 44, 45, 46, 47, 48, 49, 50, 51, 52, 53, 54, 55, 56, 57] (by decide +kernel) (by decide +kernel)
set_option maxRecDepth 20000 in
theorem gX11_node_X11_isCell : GoodIn wsX11_node (wsV RX11 103 RX11 yX11_isCell wsX11_isCell) := goodIn_app (goodIn_of _ (by decide +kernel)) ggX11_node_X11_isCell
set_option maxRecDepth 20000 in
theorem ggX11_node_X11_isNode : GoodIn wsX11_node wsX11_isNode := goodIn_r _ [15, 2, 27, 28, 29, 30, 31, 32, 33, 34, 35, 36, 37, 38, 39, 40, 41, 42, 43, 44, 45, 46, 47, 48, 49, 50, 51, 52, 53, 54, 55, 56, 57] (by decide +kernel) (by decide +kernel)
set_option maxRecDepth 20000 in
theorem gX11_node_X11_isNode : GoodIn wsX11_node (wsV RX11 107 RX11 yX11_isNode wsX11_isNode) := goodIn_app (goodIn_of _ (by decide +kernel)) ggX11_node_X11_isNode
set_option maxRecDepth 20000 in
theorem ggX11_node_X11_refuse : GoodIn wsX11_node wsX11_refuse := goodIn_r _ [19, 20, 27, 28, 29, 30, 31, 32, 33, 34, 35, 36, 37, 38, 39, 40, 41, 42, 43, 44, 45, 46, 47, 48, 49, 50, 51, 52, 53, 54, 55, 56, 57] (by decide +kernel) (by decide +kernel)
set_option maxRecDepth 20000 in
theorem gX11_node_X11_refuse : GoodIn wsX11_node (wsV RX11 89 RX11 yX11_refuse wsX11_refuse) := goodIn_app (goodIn_of _ (by decide +kernel)) ggX11_node_X11_refuse
set_option maxRecDepth 20000 in
theorem ggX11_node_X11_isPlace : GoodIn wsX11_node wsX11_isPlace := goodIn_r _ [23, 24, 25, 26] (by decide +kernel) (by decide +kernel)
set_option maxRecDepth 20000 in
theorem gX11_node_X11_isPlace : GoodIn wsX11_node (va_wsS RX11 110 yX11_isPlace wsX11_isPlace) := goodIn_app (goodIn_of _ (by decide +kernel)) ggX11_node_X11_isPlace
theorem dX11_node_0 : decode cX11_node 0 = .ok (.aload_n 0, 1) := by decide +kernel
theorem dX11_node_1 : decode cX11_node 1 = .ok (.iconst 0, 1) := by decide +kernel
theorem dX11_node_2 : decode cX11_node 2 = .ok (.putfield 75, 3) := by decide +kernel
theorem dX11_node_5 : decode cX11_node 5 = .ok (.iload_n 1, 1) := by decide +kernel
theorem dX11_node_6 : decode cX11_node 6 = .ok (.ifCond .lt 13, 3) := by decide +kernel
theorem dX11_node_9 : decode cX11_node 9 = .ok (.iload_n 1, 1) := by decide +kernel
theorem dX11_node_10 : decode cX11_node 10 = .ok (.bipush 12, 2) := by decide +kernel
theorem dX11_node_12 : decode cX11_node 12 = .ok (.if_icmp .gt 7, 3) := by decide +kernel
theorem dX11_node_15 : decode cX11_node 15 = .ok (.iconst 1, 1) := by decide +kernel
theorem dX11_node_16 : decode cX11_node 16 = .ok (.goto 4, 3) := by decide +kernel
theorem dX11_node_19 : decode cX11_node 19 = .ok (.iconst 0, 1) := by decide +kernel
theorem dX11_node_20 : decode cX11_node 20 = .ok (.istore 4, 2) := by decide +kernel
theorem dX11_node_22 : decode cX11_node 22 = .ok (.iload_n 1, 1) := by decide +kernel
theorem dX11_node_23 : decode cX11_node 23 = .ok (.ifCond .eq 19, 3) := by decide +kernel
theorem dX11_node_26 : decode cX11_node 26 = .ok (.iload_n 1, 1) := by decide +kernel
theorem dX11_node_27 : decode cX11_node 27 = .ok (.bipush 6, 2) := by decide +kernel
theorem dX11_node_29 : decode cX11_node 29 = .ok (.if_icmp .eq 13, 3) := by decide +kernel
theorem dX11_node_32 : decode cX11_node 32 = .ok (.iload_n 1, 1) := by decide +kernel
theorem dX11_node_33 : decode cX11_node 33 = .ok (.bipush 11, 2) := by decide +kernel
theorem dX11_node_35 : decode cX11_node 35 = .ok (.if_icmp .eq 7, 3) := by decide +kernel
theorem dX11_node_38 : decode cX11_node 38 = .ok (.iconst 1, 1) := by decide +kernel
theorem dX11_node_39 : decode cX11_node 39 = .ok (.goto 4, 3) := by decide +kernel
theorem dX11_node_42 : decode cX11_node 42 = .ok (.iconst 0, 1) := by decide +kernel
theorem dX11_node_43 : decode cX11_node 43 = .ok (.istore 5, 2) := by decide +kernel
theorem dX11_node_45 : decode cX11_node 45 = .ok (.iload_n 1, 1) := by decide +kernel
theorem dX11_node_46 : decode cX11_node 46 = .ok (.iconst 1, 1) := by decide +kernel
theorem dX11_node_47 : decode cX11_node 47 = .ok (.if_icmp .lt 8, 3) := by decide +kernel
theorem dX11_node_50 : decode cX11_node 50 = .ok (.iload_n 1, 1) := by decide +kernel
theorem dX11_node_51 : decode cX11_node 51 = .ok (.iconst 5, 1) := by decide +kernel
theorem dX11_node_52 : decode cX11_node 52 = .ok (.if_icmp .le 9, 3) := by decide +kernel
theorem dX11_node_55 : decode cX11_node 55 = .ok (.iload_n 1, 1) := by decide +kernel
theorem dX11_node_56 : decode cX11_node 56 = .ok (.bipush 10, 2) := by decide +kernel
theorem dX11_node_58 : decode cX11_node 58 = .ok (.if_icmp .ne 7, 3) := by decide +kernel
theorem dX11_node_61 : decode cX11_node 61 = .ok (.iconst 1, 1) := by decide +kernel
theorem dX11_node_62 : decode cX11_node 62 = .ok (.goto 4, 3) := by decide +kernel
theorem dX11_node_65 : decode cX11_node 65 = .ok (.iconst 0, 1) := by decide +kernel
theorem dX11_node_66 : decode cX11_node 66 = .ok (.istore 6, 2) := by decide +kernel
theorem dX11_node_68 : decode cX11_node 68 = .ok (.iload_n 1, 1) := by decide +kernel
theorem dX11_node_69 : decode cX11_node 69 = .ok (.bipush 6, 2) := by decide +kernel
theorem dX11_node_71 : decode cX11_node 71 = .ok (.if_icmp .lt 9, 3) := by decide +kernel
theorem dX11_node_74 : decode cX11_node 74 = .ok (.iload_n 1, 1) := by decide +kernel
theorem dX11_node_75 : decode cX11_node 75 = .ok (.bipush 8, 2) := by decide +kernel
theorem dX11_node_77 : decode cX11_node 77 = .ok (.if_icmp .le 9, 3) := by decide +kernel
theorem dX11_node_80 : decode cX11_node 80 = .ok (.iload_n 1, 1) := by decide +kernel
theorem dX11_node_81 : decode cX11_node 81 = .ok (.bipush 12, 2) := by decide +kernel
theorem dX11_node_83 : decode cX11_node 83 = .ok (.if_icmp .ne 7, 3) := by decide +kernel
theorem dX11_node_86 : decode cX11_node 86 = .ok (.iconst 1, 1) := by decide +kernel
theorem dX11_node_87 : decode cX11_node 87 = .ok (.goto 4, 3) := by decide +kernel
theorem dX11_node_90 : decode cX11_node 90 = .ok (.iconst 0, 1) := by decide +kernel
theorem dX11_node_91 : decode cX11_node 91 = .ok (.istore 7, 2) := by decide +kernel
theorem dX11_node_93 : decode cX11_node 93 = .ok (.iload 4, 2) := by decide +kernel
theorem dX11_node_95 : decode cX11_node 95 = .ok (.ifCond .eq 60, 3) := by decide +kernel
theorem dX11_node_98 : decode cX11_node 98 = .ok (.iload 5, 2) := by decide +kernel
theorem dX11_node_100 : decode cX11_node 100 = .ok (.ifCond .eq 11, 3) := by decide +kernel
theorem dX11_node_103 : decode cX11_node 103 = .ok (.aload_n 0, 1) := by decide +kernel
theorem dX11_node_104 : decode cX11_node 104 = .ok (.iload_n 2, 1) := by decide +kernel
theorem dX11_node_105 : decode cX11_node 105 = .ok (.invokevirtual 103, 3) := by decide +kernel
theorem dX11_node_108 : decode cX11_node 108 = .ok (.ifCond .eq 47, 3) := by decide +kernel
theorem dX11_node_111 : decode cX11_node 111 = .ok (.iload 6, 2) := by decide +kernel
theorem dX11_node_113 : decode cX11_node 113 = .ok (.ifCond .eq 11, 3) := by decide +kernel
theorem dX11_node_116 : decode cX11_node 116 = .ok (.aload_n 0, 1) := by decide +kernel
theorem dX11_node_117 : decode cX11_node 117 = .ok (.iload_n 3, 1) := by decide +kernel
theorem dX11_node_118 : decode cX11_node 118 = .ok (.invokevirtual 103, 3) := by decide +kernel
theorem dX11_node_121 : decode cX11_node 121 = .ok (.ifCond .eq 34, 3) := by decide +kernel
theorem dX11_node_124 : decode cX11_node 124 = .ok (.iload 7, 2) := by decide +kernel
theorem dX11_node_126 : decode cX11_node 126 = .ok (.ifCond .eq 11, 3) := by decide +kernel
theorem dX11_node_129 : decode cX11_node 129 = .ok (.aload_n 0, 1) := by decide +kernel
theorem dX11_node_130 : decode cX11_node 130 = .ok (.iload_n 3, 1) := by decide +kernel
theorem dX11_node_131 : decode cX11_node 131 = .ok (.invokevirtual 107, 3) := by decide +kernel
theorem dX11_node_134 : decode cX11_node 134 = .ok (.ifCond .eq 21, 3) := by decide +kernel
theorem dX11_node_137 : decode cX11_node 137 = .ok (.iload_n 1, 1) := by decide +kernel
theorem dX11_node_138 : decode cX11_node 138 = .ok (.bipush 6, 2) := by decide +kernel
theorem dX11_node_140 : decode cX11_node 140 = .ok (.if_icmp .ne 11, 3) := by decide +kernel
theorem dX11_node_143 : decode cX11_node 143 = .ok (.aload_n 0, 1) := by decide +kernel
theorem dX11_node_144 : decode cX11_node 144 = .ok (.iload_n 2, 1) := by decide +kernel
theorem dX11_node_145 : decode cX11_node 145 = .ok (.invokevirtual 107, 3) := by decide +kernel
theorem dX11_node_148 : decode cX11_node 148 = .ok (.ifCond .eq 7, 3) := by decide +kernel
theorem dX11_node_151 : decode cX11_node 151 = .ok (.iconst 1, 1) := by decide +kernel
theorem dX11_node_152 : decode cX11_node 152 = .ok (.goto 4, 3) := by decide +kernel
theorem dX11_node_155 : decode cX11_node 155 = .ok (.iconst 0, 1) := by decide +kernel
theorem dX11_node_156 : decode cX11_node 156 = .ok (.istore 4, 2) := by decide +kernel
theorem dX11_node_158 : decode cX11_node 158 = .ok (.iload 4, 2) := by decide +kernel
theorem dX11_node_160 : decode cX11_node 160 = .ok (.ifCond .ne 10, 3) := by decide +kernel
theorem dX11_node_163 : decode cX11_node 163 = .ok (.aload_n 0, 1) := by decide +kernel
theorem dX11_node_164 : decode cX11_node 164 = .ok (.bipush (-2), 2) := by decide +kernel
theorem dX11_node_166 : decode cX11_node 166 = .ok (.invokevirtual 89, 3) := by decide +kernel
theorem dX11_node_169 : decode cX11_node 169 = .ok (.ireturn, 1) := by decide +kernel
theorem dX11_node_170 : decode cX11_node 170 = .ok (.iload_n 1, 1) := by decide +kernel
theorem dX11_node_171 : decode cX11_node 171 = .ok (.bipush 9, 2) := by decide +kernel
theorem dX11_node_173 : decode cX11_node 173 = .ok (.if_icmp .ne 18, 3) := by decide +kernel
theorem dX11_node_176 : decode cX11_node 176 = .ok (.iload_n 3, 1) := by decide +kernel
theorem dX11_node_177 : decode cX11_node 177 = .ok (.i2l, 1) := by decide +kernel
theorem dX11_node_178 : decode cX11_node 178 = .ok (.invokestatic 110, 3) := by decide +kernel
theorem dX11_node_181 : decode cX11_node 181 = .ok (.ifCond .ne 10, 3) := by decide +kernel
theorem dX11_node_184 : decode cX11_node 184 = .ok (.aload_n 0, 1) := by decide +kernel
theorem dX11_node_185 : decode cX11_node 185 = .ok (.bipush (-4), 2) := by decide +kernel
theorem dX11_node_187 : decode cX11_node 187 = .ok (.invokevirtual 89, 3) := by decide +kernel
theorem dX11_node_190 : decode cX11_node 190 = .ok (.ireturn, 1) := by decide +kernel
theorem dX11_node_191 : decode cX11_node 191 = .ok (.aload_n 0, 1) := by decide +kernel
theorem dX11_node_192 : decode cX11_node 192 = .ok (.getfield 86, 3) := by decide +kernel
theorem dX11_node_195 : decode cX11_node 195 = .ok (.sipush 200, 3) := by decide +kernel
theorem dX11_node_198 : decode cX11_node 198 = .ok (.if_icmp .ne 9, 3) := by decide +kernel
theorem dX11_node_201 : decode cX11_node 201 = .ok (.aload_n 0, 1) := by decide +kernel
theorem dX11_node_202 : decode cX11_node 202 = .ok (.iconst (-1), 1) := by decide +kernel
theorem dX11_node_203 : decode cX11_node 203 = .ok (.invokevirtual 89, 3) := by decide +kernel
theorem dX11_node_206 : decode cX11_node 206 = .ok (.ireturn, 1) := by decide +kernel
theorem dX11_node_207 : decode cX11_node 207 = .ok (.aload_n 0, 1) := by decide +kernel
theorem dX11_node_208 : decode cX11_node 208 = .ok (.dup, 1) := by decide +kernel
theorem dX11_node_209 : decode cX11_node 209 = .ok (.getfield 86, 3) := by decide +kernel
theorem dX11_node_212 : decode cX11_node 212 = .ok (.iconst 1, 1) := by decide +kernel
theorem dX11_node_213 : decode cX11_node 213 = .ok (.iadd, 1) := by decide +kernel
theorem dX11_node_214 : decode cX11_node 214 = .ok (.putfield 86, 3) := by decide +kernel
theorem dX11_node_217 : decode cX11_node 217 = .ok (.aload_n 0, 1) := by decide +kernel
theorem dX11_node_218 : decode cX11_node 218 = .ok (.getfield 20, 3) := by decide +kernel
theorem dX11_node_221 : decode cX11_node 221 = .ok (.aload_n 0, 1) := by decide +kernel
theorem dX11_node_222 : decode cX11_node 222 = .ok (.getfield 86, 3) := by decide +kernel
theorem dX11_node_225 : decode cX11_node 225 = .ok (.iload_n 1, 1) := by decide +kernel
theorem dX11_node_226 : decode cX11_node 226 = .ok (.iastore, 1) := by decide +kernel
theorem dX11_node_227 : decode cX11_node 227 = .ok (.aload_n 0, 1) := by decide +kernel
theorem dX11_node_228 : decode cX11_node 228 = .ok (.getfield 23, 3) := by decide +kernel
theorem dX11_node_231 : decode cX11_node 231 = .ok (.aload_n 0, 1) := by decide +kernel
theorem dX11_node_232 : decode cX11_node 232 = .ok (.getfield 86, 3) := by decide +kernel
theorem dX11_node_235 : decode cX11_node 235 = .ok (.iload_n 2, 1) := by decide +kernel
theorem dX11_node_236 : decode cX11_node 236 = .ok (.iastore, 1) := by decide +kernel
theorem dX11_node_237 : decode cX11_node 237 = .ok (.aload_n 0, 1) := by decide +kernel
theorem dX11_node_238 : decode cX11_node 238 = .ok (.getfield 26, 3) := by decide +kernel
theorem dX11_node_241 : decode cX11_node 241 = .ok (.aload_n 0, 1) := by decide +kernel
theorem dX11_node_242 : decode cX11_node 242 = .ok (.getfield 86, 3) := by decide +kernel
theorem dX11_node_245 : decode cX11_node 245 = .ok (.iload_n 3, 1) := by decide +kernel
theorem dX11_node_246 : decode cX11_node 246 = .ok (.iastore, 1) := by decide +kernel
theorem dX11_node_247 : decode cX11_node 247 = .ok (.aload_n 0, 1) := by decide +kernel
theorem dX11_node_248 : decode cX11_node 248 = .ok (.getfield 86, 3) := by decide +kernel
theorem dX11_node_251 : decode cX11_node 251 = .ok (.ireturn, 1) := by decide +kernel
theorem dX11_step_0 : decode cX11_step 0 = .ok (.aload_n 0, 1) := by decide +kernel
theorem dX11_step_1 : decode cX11_step 1 = .ok (.getfield 114, 3) := by decide +kernel
theorem dX11_step_4 : decode cX11_step 4 = .ok (.aload_n 0, 1) := by decide +kernel
theorem dX11_step_5 : decode cX11_step 5 = .ok (.getfield 71, 3) := by decide +kernel
theorem dX11_step_8 : decode cX11_step 8 = .ok (.if_icmp .ne 5, 3) := by decide +kernel
theorem dX11_step_11 : decode cX11_step 11 = .ok (.iconst 0, 1) := by decide +kernel
theorem dX11_step_12 : decode cX11_step 12 = .ok (.ireturn, 1) := by decide +kernel
theorem dX11_step_13 : decode cX11_step 13 = .ok (.aload_n 0, 1) := by decide +kernel
theorem dX11_step_14 : decode cX11_step 14 = .ok (.dup, 1) := by decide +kernel
theorem dX11_step_15 : decode cX11_step 15 = .ok (.getfield 114, 3) := by decide +kernel
theorem dX11_step_18 : decode cX11_step 18 = .ok (.iconst 1, 1) := by decide +kernel
theorem dX11_step_19 : decode cX11_step 19 = .ok (.iadd, 1) := by decide +kernel
theorem dX11_step_20 : decode cX11_step 20 = .ok (.putfield 114, 3) := by decide +kernel
theorem dX11_step_23 : decode cX11_step 23 = .ok (.iconst 1, 1) := by decide +kernel
theorem dX11_step_24 : decode cX11_step 24 = .ok (.ireturn, 1) := by decide +kernel
theorem dX11_push_0 : decode cX11_push 0 = .ok (.aload_n 0, 1) := by decide +kernel
theorem dX11_push_1 : decode cX11_push 1 = .ok (.getfield 29, 3) := by decide +kernel
theorem dX11_push_4 : decode cX11_push 4 = .ok (.aload_n 0, 1) := by decide +kernel
theorem dX11_push_5 : decode cX11_push 5 = .ok (.getfield 117, 3) := by decide +kernel
theorem dX11_push_8 : decode cX11_push 8 = .ok (.iload_n 1, 1) := by decide +kernel
theorem dX11_push_9 : decode cX11_push 9 = .ok (.iastore, 1) := by decide +kernel
theorem dX11_push_10 : decode cX11_push 10 = .ok (.aload_n 0, 1) := by decide +kernel
theorem dX11_push_11 : decode cX11_push 11 = .ok (.dup, 1) := by decide +kernel
theorem dX11_push_12 : decode cX11_push 12 = .ok (.getfield 117, 3) := by decide +kernel
theorem dX11_push_15 : decode cX11_push 15 = .ok (.iconst 1, 1) := by decide +kernel
theorem dX11_push_16 : decode cX11_push 16 = .ok (.iadd, 1) := by decide +kernel
theorem dX11_push_17 : decode cX11_push 17 = .ok (.putfield 117, 3) := by decide +kernel
theorem dX11_push_20 : decode cX11_push 20 = .ok (.return_, 1) := by decide +kernel
theorem dX11_hold_0 : decode cX11_hold 0 = .ok (.aload_n 0, 1) := by decide +kernel
theorem dX11_hold_1 : decode cX11_hold 1 = .ok (.getfield 32, 3) := by decide +kernel
theorem dX11_hold_4 : decode cX11_hold 4 = .ok (.iconst 0, 1) := by decide +kernel
theorem dX11_hold_5 : decode cX11_hold 5 = .ok (.iaload, 1) := by decide +kernel
theorem dX11_hold_6 : decode cX11_hold 6 = .ok (.sipush 1000, 3) := by decide +kernel
theorem dX11_hold_9 : decode cX11_hold 9 = .ok (.if_icmp .ne 5, 3) := by decide +kernel
theorem dX11_hold_12 : decode cX11_hold 12 = .ok (.iconst 0, 1) := by decide +kernel
theorem dX11_hold_13 : decode cX11_hold 13 = .ok (.ireturn, 1) := by decide +kernel
theorem dX11_hold_14 : decode cX11_hold 14 = .ok (.aload_n 0, 1) := by decide +kernel
theorem dX11_hold_15 : decode cX11_hold 15 = .ok (.getfield 35, 3) := by decide +kernel
theorem dX11_hold_18 : decode cX11_hold 18 = .ok (.aload_n 0, 1) := by decide +kernel
theorem dX11_hold_19 : decode cX11_hold 19 = .ok (.getfield 32, 3) := by decide +kernel
theorem dX11_hold_22 : decode cX11_hold 22 = .ok (.iconst 0, 1) := by decide +kernel
theorem dX11_hold_23 : decode cX11_hold 23 = .ok (.iaload, 1) := by decide +kernel
theorem dX11_hold_24 : decode cX11_hold 24 = .ok (.iload_n 1, 1) := by decide +kernel
theorem dX11_hold_25 : decode cX11_hold 25 = .ok (.iastore, 1) := by decide +kernel
theorem dX11_hold_26 : decode cX11_hold 26 = .ok (.aload_n 0, 1) := by decide +kernel
theorem dX11_hold_27 : decode cX11_hold 27 = .ok (.getfield 38, 3) := by decide +kernel
theorem dX11_hold_30 : decode cX11_hold 30 = .ok (.aload_n 0, 1) := by decide +kernel
theorem dX11_hold_31 : decode cX11_hold 31 = .ok (.getfield 32, 3) := by decide +kernel
theorem dX11_hold_34 : decode cX11_hold 34 = .ok (.iconst 0, 1) := by decide +kernel
theorem dX11_hold_35 : decode cX11_hold 35 = .ok (.iaload, 1) := by decide +kernel
theorem dX11_hold_36 : decode cX11_hold 36 = .ok (.lload_n 2, 1) := by decide +kernel
theorem dX11_hold_37 : decode cX11_hold 37 = .ok (.lastore, 1) := by decide +kernel
theorem dX11_hold_38 : decode cX11_hold 38 = .ok (.aload_n 0, 1) := by decide +kernel
theorem dX11_hold_39 : decode cX11_hold 39 = .ok (.getfield 41, 3) := by decide +kernel
theorem dX11_hold_42 : decode cX11_hold 42 = .ok (.aload_n 0, 1) := by decide +kernel
theorem dX11_hold_43 : decode cX11_hold 43 = .ok (.getfield 32, 3) := by decide +kernel
theorem dX11_hold_46 : decode cX11_hold 46 = .ok (.iconst 0, 1) := by decide +kernel
theorem dX11_hold_47 : decode cX11_hold 47 = .ok (.iaload, 1) := by decide +kernel
theorem dX11_hold_48 : decode cX11_hold 48 = .ok (.lload 4, 2) := by decide +kernel
theorem dX11_hold_50 : decode cX11_hold 50 = .ok (.lastore, 1) := by decide +kernel
theorem dX11_hold_51 : decode cX11_hold 51 = .ok (.aload_n 0, 1) := by decide +kernel
theorem dX11_hold_52 : decode cX11_hold 52 = .ok (.getfield 32, 3) := by decide +kernel
theorem dX11_hold_55 : decode cX11_hold 55 = .ok (.iconst 0, 1) := by decide +kernel
theorem dX11_hold_56 : decode cX11_hold 56 = .ok (.dup2, 1) := by decide +kernel
theorem dX11_hold_57 : decode cX11_hold 57 = .ok (.iaload, 1) := by decide +kernel
theorem dX11_hold_58 : decode cX11_hold 58 = .ok (.iconst 1, 1) := by decide +kernel
theorem dX11_hold_59 : decode cX11_hold 59 = .ok (.iadd, 1) := by decide +kernel
theorem dX11_hold_60 : decode cX11_hold 60 = .ok (.iastore, 1) := by decide +kernel
theorem dX11_hold_61 : decode cX11_hold 61 = .ok (.iconst 1, 1) := by decide +kernel
theorem dX11_hold_62 : decode cX11_hold 62 = .ok (.ireturn, 1) := by decide +kernel
set_option maxRecDepth 20000 in
theorem ggX11_become_X11_power : GoodIn wsX11_become wsX11_power := goodIn_r _ [6, 7] (by decide +kernel) (by decide +kernel)
set_option maxRecDepth 20000 in
theorem gX11_become_X11_power : GoodIn wsX11_become (va_wsS RX11 93 yX11_power wsX11_power) := goodIn_app (goodIn_of _ (by decide +kernel)) ggX11_become_X11_power
theorem dX11_become_0 : decode cX11_become 0 = .ok (.aload_n 0, 1) := by decide +kernel
theorem dX11_become_1 : decode cX11_become 1 = .ok (.getfield 7, 3) := by decide +kernel
theorem dX11_become_4 : decode cX11_become 4 = .ok (.iload_n 1, 1) := by decide +kernel
theorem dX11_become_5 : decode cX11_become 5 = .ok (.iaload, 1) := by decide +kernel
theorem dX11_become_6 : decode cX11_become 6 = .ok (.invokestatic 93, 3) := by decide +kernel
theorem dX11_become_9 : decode cX11_become 9 = .ok (.lstore 4, 2) := by decide +kernel
theorem dX11_become_11 : decode cX11_become 11 = .ok (.lload_n 2, 1) := by decide +kernel
theorem dX11_become_12 : decode cX11_become 12 = .ok (.lload 4, 2) := by decide +kernel
theorem dX11_become_14 : decode cX11_become 14 = .ok (.lcmp, 1) := by decide +kernel
theorem dX11_become_15 : decode cX11_become 15 = .ok (.ifCond .ge 11, 3) := by decide +kernel
theorem dX11_become_18 : decode cX11_become 18 = .ok (.lload_n 2, 1) := by decide +kernel
theorem dX11_become_19 : decode cX11_become 19 = .ok (.lload 4, 2) := by decide +kernel
theorem dX11_become_21 : decode cX11_become 21 = .ok (.lneg, 1) := by decide +kernel
theorem dX11_become_22 : decode cX11_become 22 = .ok (.lcmp, 1) := by decide +kernel
theorem dX11_become_23 : decode cX11_become 23 = .ok (.ifCond .gt 5, 3) := by decide +kernel
theorem dX11_become_26 : decode cX11_become 26 = .ok (.iconst 0, 1) := by decide +kernel
theorem dX11_become_27 : decode cX11_become 27 = .ok (.ireturn, 1) := by decide +kernel
theorem dX11_become_28 : decode cX11_become 28 = .ok (.aload_n 0, 1) := by decide +kernel
theorem dX11_become_29 : decode cX11_become 29 = .ok (.getfield 13, 3) := by decide +kernel
theorem dX11_become_32 : decode cX11_become 32 = .ok (.iload_n 1, 1) := by decide +kernel
theorem dX11_become_33 : decode cX11_become 33 = .ok (.lload_n 2, 1) := by decide +kernel
theorem dX11_become_34 : decode cX11_become 34 = .ok (.lastore, 1) := by decide +kernel
theorem dX11_become_35 : decode cX11_become 35 = .ok (.iconst 1, 1) := by decide +kernel
theorem dX11_become_36 : decode cX11_become 36 = .ok (.ireturn, 1) := by decide +kernel
set_option maxRecDepth 20000 in
theorem ggX11_multiply_X11_power : GoodIn wsX11_multiply wsX11_power := goodIn_r _ [6, 7] (by decide +kernel) (by decide +kernel)
set_option maxRecDepth 20000 in
theorem gX11_multiply_X11_power : GoodIn wsX11_multiply (va_wsS RX11 93 yX11_power wsX11_power) := goodIn_app (goodIn_of _ (by decide +kernel)) ggX11_multiply_X11_power
theorem dX11_multiply_0 : decode cX11_multiply 0 = .ok (.aload_n 0, 1) := by decide +kernel
theorem dX11_multiply_1 : decode cX11_multiply 1 = .ok (.getfield 13, 3) := by decide +kernel
theorem dX11_multiply_4 : decode cX11_multiply 4 = .ok (.iload_n 1, 1) := by decide +kernel
theorem dX11_multiply_5 : decode cX11_multiply 5 = .ok (.laload, 1) := by decide +kernel
theorem dX11_multiply_6 : decode cX11_multiply 6 = .ok (.lconst 0, 1) := by decide +kernel
theorem dX11_multiply_7 : decode cX11_multiply 7 = .ok (.lcmp, 1) := by decide +kernel
theorem dX11_multiply_8 : decode cX11_multiply 8 = .ok (.ifCond .ge 13, 3) := by decide +kernel
theorem dX11_multiply_11 : decode cX11_multiply 11 = .ok (.aload_n 0, 1) := by decide +kernel
theorem dX11_multiply_12 : decode cX11_multiply 12 = .ok (.getfield 13, 3) := by decide +kernel
theorem dX11_multiply_15 : decode cX11_multiply 15 = .ok (.iload_n 1, 1) := by decide +kernel
theorem dX11_multiply_16 : decode cX11_multiply 16 = .ok (.laload, 1) := by decide +kernel
theorem dX11_multiply_17 : decode cX11_multiply 17 = .ok (.lneg, 1) := by decide +kernel
theorem dX11_multiply_18 : decode cX11_multiply 18 = .ok (.goto 9, 3) := by decide +kernel
theorem dX11_multiply_21 : decode cX11_multiply 21 = .ok (.aload_n 0, 1) := by decide +kernel
theorem dX11_multiply_22 : decode cX11_multiply 22 = .ok (.getfield 13, 3) := by decide +kernel
theorem dX11_multiply_25 : decode cX11_multiply 25 = .ok (.iload_n 1, 1) := by decide +kernel
theorem dX11_multiply_26 : decode cX11_multiply 26 = .ok (.laload, 1) := by decide +kernel
theorem dX11_multiply_27 : decode cX11_multiply 27 = .ok (.lstore_n 3, 1) := by decide +kernel
theorem dX11_multiply_28 : decode cX11_multiply 28 = .ok (.aload_n 0, 1) := by decide +kernel
theorem dX11_multiply_29 : decode cX11_multiply 29 = .ok (.getfield 13, 3) := by decide +kernel
theorem dX11_multiply_32 : decode cX11_multiply 32 = .ok (.iload_n 2, 1) := by decide +kernel
theorem dX11_multiply_33 : decode cX11_multiply 33 = .ok (.laload, 1) := by decide +kernel
theorem dX11_multiply_34 : decode cX11_multiply 34 = .ok (.lconst 0, 1) := by decide +kernel
theorem dX11_multiply_35 : decode cX11_multiply 35 = .ok (.lcmp, 1) := by decide +kernel
theorem dX11_multiply_36 : decode cX11_multiply 36 = .ok (.ifCond .ge 13, 3) := by decide +kernel
theorem dX11_multiply_39 : decode cX11_multiply 39 = .ok (.aload_n 0, 1) := by decide +kernel
theorem dX11_multiply_40 : decode cX11_multiply 40 = .ok (.getfield 13, 3) := by decide +kernel
theorem dX11_multiply_43 : decode cX11_multiply 43 = .ok (.iload_n 2, 1) := by decide +kernel
theorem dX11_multiply_44 : decode cX11_multiply 44 = .ok (.laload, 1) := by decide +kernel
theorem dX11_multiply_45 : decode cX11_multiply 45 = .ok (.lneg, 1) := by decide +kernel
theorem dX11_multiply_46 : decode cX11_multiply 46 = .ok (.goto 9, 3) := by decide +kernel
theorem dX11_multiply_49 : decode cX11_multiply 49 = .ok (.aload_n 0, 1) := by decide +kernel
theorem dX11_multiply_50 : decode cX11_multiply 50 = .ok (.getfield 13, 3) := by decide +kernel
theorem dX11_multiply_53 : decode cX11_multiply 53 = .ok (.iload_n 2, 1) := by decide +kernel
theorem dX11_multiply_54 : decode cX11_multiply 54 = .ok (.laload, 1) := by decide +kernel
theorem dX11_multiply_55 : decode cX11_multiply 55 = .ok (.lstore 5, 2) := by decide +kernel
theorem dX11_multiply_57 : decode cX11_multiply 57 = .ok (.lload_n 3, 1) := by decide +kernel
theorem dX11_multiply_58 : decode cX11_multiply 58 = .ok (.lconst 0, 1) := by decide +kernel
theorem dX11_multiply_59 : decode cX11_multiply 59 = .ok (.lcmp, 1) := by decide +kernel
theorem dX11_multiply_60 : decode cX11_multiply 60 = .ok (.ifCond .le 24, 3) := by decide +kernel
theorem dX11_multiply_63 : decode cX11_multiply 63 = .ok (.lload 5, 2) := by decide +kernel
theorem dX11_multiply_65 : decode cX11_multiply 65 = .ok (.aload_n 0, 1) := by decide +kernel
theorem dX11_multiply_66 : decode cX11_multiply 66 = .ok (.getfield 7, 3) := by decide +kernel
theorem dX11_multiply_69 : decode cX11_multiply 69 = .ok (.iload_n 2, 1) := by decide +kernel
theorem dX11_multiply_70 : decode cX11_multiply 70 = .ok (.iaload, 1) := by decide +kernel
theorem dX11_multiply_71 : decode cX11_multiply 71 = .ok (.invokestatic 93, 3) := by decide +kernel
theorem dX11_multiply_74 : decode cX11_multiply 74 = .ok (.lconst 1, 1) := by decide +kernel
theorem dX11_multiply_75 : decode cX11_multiply 75 = .ok (.lsub, 1) := by decide +kernel
theorem dX11_multiply_76 : decode cX11_multiply 76 = .ok (.lload_n 3, 1) := by decide +kernel
theorem dX11_multiply_77 : decode cX11_multiply 77 = .ok (.ldiv, 1) := by decide +kernel
theorem dX11_multiply_78 : decode cX11_multiply 78 = .ok (.lcmp, 1) := by decide +kernel
theorem dX11_multiply_79 : decode cX11_multiply 79 = .ok (.ifCond .le 5, 3) := by decide +kernel
theorem dX11_multiply_82 : decode cX11_multiply 82 = .ok (.iconst 0, 1) := by decide +kernel
theorem dX11_multiply_83 : decode cX11_multiply 83 = .ok (.ireturn, 1) := by decide +kernel
theorem dX11_multiply_84 : decode cX11_multiply 84 = .ok (.aload_n 0, 1) := by decide +kernel
theorem dX11_multiply_85 : decode cX11_multiply 85 = .ok (.getfield 13, 3) := by decide +kernel
theorem dX11_multiply_88 : decode cX11_multiply 88 = .ok (.iload_n 2, 1) := by decide +kernel
theorem dX11_multiply_89 : decode cX11_multiply 89 = .ok (.aload_n 0, 1) := by decide +kernel
theorem dX11_multiply_90 : decode cX11_multiply 90 = .ok (.getfield 13, 3) := by decide +kernel
theorem dX11_multiply_93 : decode cX11_multiply 93 = .ok (.iload_n 2, 1) := by decide +kernel
theorem dX11_multiply_94 : decode cX11_multiply 94 = .ok (.laload, 1) := by decide +kernel
theorem dX11_multiply_95 : decode cX11_multiply 95 = .ok (.aload_n 0, 1) := by decide +kernel
theorem dX11_multiply_96 : decode cX11_multiply 96 = .ok (.getfield 13, 3) := by decide +kernel
theorem dX11_multiply_99 : decode cX11_multiply 99 = .ok (.iload_n 1, 1) := by decide +kernel
theorem dX11_multiply_100 : decode cX11_multiply 100 = .ok (.laload, 1) := by decide +kernel
theorem dX11_multiply_101 : decode cX11_multiply 101 = .ok (.lmul, 1) := by decide +kernel
theorem dX11_multiply_102 : decode cX11_multiply 102 = .ok (.lastore, 1) := by decide +kernel
theorem dX11_multiply_103 : decode cX11_multiply 103 = .ok (.iconst 1, 1) := by decide +kernel
theorem dX11_multiply_104 : decode cX11_multiply 104 = .ok (.ireturn, 1) := by decide +kernel
set_option maxRecDepth 20000 in
theorem ggX11_display_X11_power : GoodIn wsX11_display wsX11_power := goodIn_r _ [7, 3] (by decide +kernel) (by decide +kernel)
set_option maxRecDepth 20000 in
theorem gX11_display_X11_power : GoodIn wsX11_display (va_wsS RX11 93 yX11_power wsX11_power) := goodIn_app (goodIn_of _ (by decide +kernel)) ggX11_display_X11_power
set_option maxRecDepth 20000 in
theorem ggX11_display_X11_hold : GoodIn wsX11_display wsX11_hold := goodIn_r _ [11, 12, 13, 14, 15, 16, 17, 18, 19, 20, 21, 22, 23, 24, 25, 26, 27, 28, 29, 30, 31, 32, 33, 34, 35, 36, 37, 38, 39, 40, 41, 42, 43, 44, 45, 46] (by decide +kernel) (by decide +kernel)
set_option maxRecDepth 20000 in
theorem gX11_display_X11_hold : GoodIn wsX11_display (wsV RX11 120 RX11 yX11_hold wsX11_hold) := goodIn_app (goodIn_of _ (by decide +kernel)) ggX11_display_X11_hold
theorem dX11_display_0 : decode cX11_display 0 = .ok (.aload_n 0, 1) := by decide +kernel
theorem dX11_display_1 : decode cX11_display 1 = .ok (.getfield 13, 3) := by decide +kernel
theorem dX11_display_4 : decode cX11_display 4 = .ok (.iload_n 1, 1) := by decide +kernel
theorem dX11_display_5 : decode cX11_display 5 = .ok (.laload, 1) := by decide +kernel
theorem dX11_display_6 : decode cX11_display 6 = .ok (.lconst 0, 1) := by decide +kernel
theorem dX11_display_7 : decode cX11_display 7 = .ok (.lcmp, 1) := by decide +kernel
theorem dX11_display_8 : decode cX11_display 8 = .ok (.ifCond .ge 13, 3) := by decide +kernel
theorem dX11_display_11 : decode cX11_display 11 = .ok (.aload_n 0, 1) := by decide +kernel
theorem dX11_display_12 : decode cX11_display 12 = .ok (.getfield 13, 3) := by decide +kernel
theorem dX11_display_15 : decode cX11_display 15 = .ok (.iload_n 1, 1) := by decide +kernel
theorem dX11_display_16 : decode cX11_display 16 = .ok (.laload, 1) := by decide +kernel
theorem dX11_display_17 : decode cX11_display 17 = .ok (.lneg, 1) := by decide +kernel
theorem dX11_display_18 : decode cX11_display 18 = .ok (.goto 9, 3) := by decide +kernel
theorem dX11_display_21 : decode cX11_display 21 = .ok (.aload_n 0, 1) := by decide +kernel
theorem dX11_display_22 : decode cX11_display 22 = .ok (.getfield 13, 3) := by decide +kernel
theorem dX11_display_25 : decode cX11_display 25 = .ok (.iload_n 1, 1) := by decide +kernel
theorem dX11_display_26 : decode cX11_display 26 = .ok (.laload, 1) := by decide +kernel
theorem dX11_display_27 : decode cX11_display 27 = .ok (.lstore_n 3, 1) := by decide +kernel
theorem dX11_display_28 : decode cX11_display 28 = .ok (.aload_n 0, 1) := by decide +kernel
theorem dX11_display_29 : decode cX11_display 29 = .ok (.getfield 13, 3) := by decide +kernel
theorem dX11_display_32 : decode cX11_display 32 = .ok (.iload_n 1, 1) := by decide +kernel
theorem dX11_display_33 : decode cX11_display 33 = .ok (.laload, 1) := by decide +kernel
theorem dX11_display_34 : decode cX11_display 34 = .ok (.lconst 0, 1) := by decide +kernel
theorem dX11_display_35 : decode cX11_display 35 = .ok (.lcmp, 1) := by decide +kernel
theorem dX11_display_36 : decode cX11_display 36 = .ok (.ifCond .ge 7, 3) := by decide +kernel
theorem dX11_display_39 : decode cX11_display 39 = .ok (.iconst 1, 1) := by decide +kernel
theorem dX11_display_40 : decode cX11_display 40 = .ok (.goto 4, 3) := by decide +kernel
theorem dX11_display_43 : decode cX11_display 43 = .ok (.iconst 0, 1) := by decide +kernel
theorem dX11_display_44 : decode cX11_display 44 = .ok (.istore 5, 2) := by decide +kernel
theorem dX11_display_46 : decode cX11_display 46 = .ok (.iconst 1, 1) := by decide +kernel
theorem dX11_display_47 : decode cX11_display 47 = .ok (.istore 6, 2) := by decide +kernel
theorem dX11_display_49 : decode cX11_display 49 = .ok (.iconst 0, 1) := by decide +kernel
theorem dX11_display_50 : decode cX11_display 50 = .ok (.istore 7, 2) := by decide +kernel
theorem dX11_display_52 : decode cX11_display 52 = .ok (.iload 7, 2) := by decide +kernel
theorem dX11_display_54 : decode cX11_display 54 = .ok (.aload_n 0, 1) := by decide +kernel
theorem dX11_display_55 : decode cX11_display 55 = .ok (.getfield 7, 3) := by decide +kernel
theorem dX11_display_58 : decode cX11_display 58 = .ok (.iload_n 1, 1) := by decide +kernel
theorem dX11_display_59 : decode cX11_display 59 = .ok (.iaload, 1) := by decide +kernel
theorem dX11_display_60 : decode cX11_display 60 = .ok (.iload 5, 2) := by decide +kernel
theorem dX11_display_62 : decode cX11_display 62 = .ok (.iadd, 1) := by decide +kernel
theorem dX11_display_63 : decode cX11_display 63 = .ok (.if_icmp .ge 84, 3) := by decide +kernel
theorem dX11_display_66 : decode cX11_display 66 = .ok (.iload 6, 2) := by decide +kernel
theorem dX11_display_68 : decode cX11_display 68 = .ok (.ifCond .eq 79, 3) := by decide +kernel
theorem dX11_display_71 : decode cX11_display 71 = .ok (.iload_n 2, 1) := by decide +kernel
theorem dX11_display_72 : decode cX11_display 72 = .ok (.bipush 100, 2) := by decide +kernel
theorem dX11_display_74 : decode cX11_display 74 = .ok (.irem, 1) := by decide +kernel
theorem dX11_display_75 : decode cX11_display 75 = .ok (.iload 7, 2) := by decide +kernel
theorem dX11_display_77 : decode cX11_display 77 = .ok (.iadd, 1) := by decide +kernel
theorem dX11_display_78 : decode cX11_display 78 = .ok (.bipush 80, 2) := by decide +kernel
theorem dX11_display_80 : decode cX11_display 80 = .ok (.if_icmp .le 5, 3) := by decide +kernel
theorem dX11_display_83 : decode cX11_display 83 = .ok (.iconst 1, 1) := by decide +kernel
theorem dX11_display_84 : decode cX11_display 84 = .ok (.ireturn, 1) := by decide +kernel
theorem dX11_display_85 : decode cX11_display 85 = .ok (.iload 7, 2) := by decide +kernel
theorem dX11_display_87 : decode cX11_display 87 = .ok (.iload 5, 2) := by decide +kernel
theorem dX11_display_89 : decode cX11_display 89 = .ok (.if_icmp .ge 8, 3) := by decide +kernel
theorem dX11_display_92 : decode cX11_display 92 = .ok (.bipush 45, 2) := by decide +kernel
theorem dX11_display_94 : decode cX11_display 94 = .ok (.goto 30, 3) := by decide +kernel
theorem dX11_display_97 : decode cX11_display 97 = .ok (.bipush 48, 2) := by decide +kernel
theorem dX11_display_99 : decode cX11_display 99 = .ok (.lload_n 3, 1) := by decide +kernel
theorem dX11_display_100 : decode cX11_display 100 = .ok (.aload_n 0, 1) := by decide +kernel
theorem dX11_display_101 : decode cX11_display 101 = .ok (.getfield 7, 3) := by decide +kernel
theorem dX11_display_104 : decode cX11_display 104 = .ok (.iload_n 1, 1) := by decide +kernel
theorem dX11_display_105 : decode cX11_display 105 = .ok (.iaload, 1) := by decide +kernel
theorem dX11_display_106 : decode cX11_display 106 = .ok (.iload 5, 2) := by decide +kernel
theorem dX11_display_108 : decode cX11_display 108 = .ok (.iadd, 1) := by decide +kernel
theorem dX11_display_109 : decode cX11_display 109 = .ok (.iconst 1, 1) := by decide +kernel
theorem dX11_display_110 : decode cX11_display 110 = .ok (.isub, 1) := by decide +kernel
theorem dX11_display_111 : decode cX11_display 111 = .ok (.iload 7, 2) := by decide +kernel
theorem dX11_display_113 : decode cX11_display 113 = .ok (.isub, 1) := by decide +kernel
theorem dX11_display_114 : decode cX11_display 114 = .ok (.invokestatic 93, 3) := by decide +kernel
theorem dX11_display_117 : decode cX11_display 117 = .ok (.ldiv, 1) := by decide +kernel
theorem dX11_display_118 : decode cX11_display 118 = .ok (.ldc2_w 81, 3) := by decide +kernel
theorem dX11_display_121 : decode cX11_display 121 = .ok (.lrem, 1) := by decide +kernel
theorem dX11_display_122 : decode cX11_display 122 = .ok (.l2i, 1) := by decide +kernel
theorem dX11_display_123 : decode cX11_display 123 = .ok (.iadd, 1) := by decide +kernel
theorem dX11_display_124 : decode cX11_display 124 = .ok (.istore 8, 2) := by decide +kernel
theorem dX11_display_126 : decode cX11_display 126 = .ok (.aload_n 0, 1) := by decide +kernel
theorem dX11_display_127 : decode cX11_display 127 = .ok (.iconst 4, 1) := by decide +kernel
theorem dX11_display_128 : decode cX11_display 128 = .ok (.iload_n 2, 1) := by decide +kernel
theorem dX11_display_129 : decode cX11_display 129 = .ok (.iload 7, 2) := by decide +kernel
theorem dX11_display_131 : decode cX11_display 131 = .ok (.iadd, 1) := by decide +kernel
theorem dX11_display_132 : decode cX11_display 132 = .ok (.i2l, 1) := by decide +kernel
theorem dX11_display_133 : decode cX11_display 133 = .ok (.iload 8, 2) := by decide +kernel
theorem dX11_display_135 : decode cX11_display 135 = .ok (.i2l, 1) := by decide +kernel
theorem dX11_display_136 : decode cX11_display 136 = .ok (.invokevirtual 120, 3) := by decide +kernel
theorem dX11_display_139 : decode cX11_display 139 = .ok (.istore 6, 2) := by decide +kernel
theorem dX11_display_141 : decode cX11_display 141 = .ok (.iinc 7 1, 3) := by decide +kernel
theorem dX11_display_144 : decode cX11_display 144 = .ok (.goto (-92), 3) := by decide +kernel
theorem dX11_display_147 : decode cX11_display 147 = .ok (.iload 6, 2) := by decide +kernel
theorem dX11_display_149 : decode cX11_display 149 = .ok (.ireturn, 1) := by decide +kernel
set_option maxRecDepth 20000 in
theorem ggX11_act_X11_power : GoodIn wsX11_act wsX11_power := goodIn_r _ [10, 11] (by decide +kernel) (by decide +kernel)
set_option maxRecDepth 20000 in
theorem gX11_act_X11_power : GoodIn wsX11_act (va_wsS RX11 93 yX11_power wsX11_power) := goodIn_app (goodIn_of _ (by decide +kernel)) ggX11_act_X11_power
set_option maxRecDepth 20000 in
theorem ggX11_act_X11_become : GoodIn wsX11_act wsX11_become := goodIn_r _ [15, 5, 4, 7, 8, 9, 10, 11, 38, 39, 40, 41, 42, 43, 44, 45, 46, 47, 48, 49, 50, 51, 52, 53, 54, 55, 56, 57, 58, 59, 60, 61, 62, 63, 64, 65, 66, 67, 68] (by decide +kernel) (by decide +kernel)
set_option maxRecDepth 20000 in
theorem gX11_act_X11_become : GoodIn wsX11_act (wsV RX11 124 RX11 yX11_become wsX11_become) := goodIn_app (goodIn_of _ (by decide +kernel)) ggX11_act_X11_become
set_option maxRecDepth 20000 in
theorem ggX11_act_X11_multiply : GoodIn wsX11_act wsX11_multiply := goodIn_r _ [19, 4, 5, 7, 8, 9, 10, 11, 38, 39, 40, 41, 42, 43, 44, 45, 46, 47, 48, 49, 50, 51, 52, 53, 54, 55, 56, 57, 58, 59, 60, 61, 62, 63, 64, 65, 66, 67, 68] (by decide +kernel) (by decide +kernel)
set_option maxRecDepth 20000 in
theorem gX11_act_X11_multiply : GoodIn wsX11_act (wsV RX11 128 RX11 yX11_multiply wsX11_multiply) := goodIn_app (goodIn_of _ (by decide +kernel)) ggX11_act_X11_multiply
set_option maxRecDepth 20000 in
theorem ggX11_act_X11_push : GoodIn wsX11_act wsX11_push := goodIn_r _ [23, 24, 25, 38, 39, 40, 41, 42, 43, 44, 45, 46, 47, 48, 49, 50, 51, 52, 53, 54, 55, 56, 57, 58, 59, 60, 61, 62, 63, 64, 65, 66, 67, 68] (by decide +kernel) (by decide +kernel)
set_option maxRecDepth 20000 in
theorem gX11_act_X11_push : GoodIn wsX11_act (wsV RX11 132 RX11 yX11_push wsX11_push) := goodIn_app (goodIn_of _ (by decide +kernel)) ggX11_act_X11_push
set_option maxRecDepth 20000 in
theorem ggX11_act_X11_display : GoodIn wsX11_act wsX11_display := goodIn_r _ [29, 4, 5, 11, 7, 8, 9, 10, 30, 31, 32, 33, 34, 35, 36, 37, 38, 39, 40, 41, 42, 43, 44, 45, 46, 47, 48, 49, 50, 51, 52, 53, 54, 55, 56, 57, 58, 59, 60, 61, 62, 63, 64, 65, 66, 67, 68] (by decide +kernel) (by decide +kernel)
set_option maxRecDepth 20000 in
theorem gX11_act_X11_display : GoodIn wsX11_act (wsV RX11 136 RX11 yX11_display wsX11_display) := goodIn_app (goodIn_of _ (by decide +kernel)) ggX11_act_X11_display
set_option maxRecDepth 20000 in
theorem ggX11_act_X11_hold : GoodIn wsX11_act wsX11_hold := goodIn_r _ [33, 34, 35, 36, 37, 38, 39, 40, 41, 42, 43, 44, 45, 46, 47, 48, 49, 50, 51, 52, 53, 54, 55, 56, 57, 58, 59, 60, 61, 62, 63, 64, 65, 66, 67, 68] (by decide +kernel) (by decide +kernel)
set_option maxRecDepth 20000 in
theorem gX11_act_X11_hold : GoodIn wsX11_act (wsV RX11 120 RX11 yX11_hold wsX11_hold) := goodIn_app (goodIn_of _ (by decide +kernel)) ggX11_act_X11_hold
theorem dX11_act_0 : decode cX11_act 0 = .ok (.aload_n 0, 1) := by decide +kernel
theorem dX11_act_1 : decode cX11_act 1 = .ok (.getfield 23, 3) := by decide +kernel
theorem dX11_act_4 : decode cX11_act 4 = .ok (.iload_n 1, 1) := by decide +kernel
theorem dX11_act_5 : decode cX11_act 5 = .ok (.iaload, 1) := by decide +kernel
theorem dX11_act_6 : decode cX11_act 6 = .ok (.istore_n 2, 1) := by decide +kernel
theorem dX11_act_7 : decode cX11_act 7 = .ok (.aload_n 0, 1) := by decide +kernel
theorem dX11_act_8 : decode cX11_act 8 = .ok (.getfield 26, 3) := by decide +kernel
theorem dX11_act_11 : decode cX11_act 11 = .ok (.iload_n 1, 1) := by decide +kernel
theorem dX11_act_12 : decode cX11_act 12 = .ok (.iaload, 1) := by decide +kernel
theorem dX11_act_13 : decode cX11_act 13 = .ok (.istore_n 3, 1) := by decide +kernel
theorem dX11_act_14 : decode cX11_act 14 = .ok (.aload_n 0, 1) := by decide +kernel
theorem dX11_act_15 : decode cX11_act 15 = .ok (.getfield 20, 3) := by decide +kernel
theorem dX11_act_18 : decode cX11_act 18 = .ok (.iload_n 1, 1) := by decide +kernel
theorem dX11_act_19 : decode cX11_act 19 = .ok (.iaload, 1) := by decide +kernel
theorem dX11_act_20 : decode cX11_act 20 = .ok (.tableswitch 291 1 12 #[64, 88, 107, 126, 133, 171, 183, 226, 234, 241, 291, 183], 64) := by decide +kernel
theorem dX11_act_84 : decode cX11_act 84 = .ok (.aload_n 0, 1) := by decide +kernel
theorem dX11_act_85 : decode cX11_act 85 = .ok (.getfield 13, 3) := by decide +kernel
theorem dX11_act_88 : decode cX11_act 88 = .ok (.iload_n 3, 1) := by decide +kernel
theorem dX11_act_89 : decode cX11_act 89 = .ok (.aload_n 0, 1) := by decide +kernel
theorem dX11_act_90 : decode cX11_act 90 = .ok (.getfield 13, 3) := by decide +kernel
theorem dX11_act_93 : decode cX11_act 93 = .ok (.iload_n 2, 1) := by decide +kernel
theorem dX11_act_94 : decode cX11_act 94 = .ok (.laload, 1) := by decide +kernel
theorem dX11_act_95 : decode cX11_act 95 = .ok (.aload_n 0, 1) := by decide +kernel
theorem dX11_act_96 : decode cX11_act 96 = .ok (.getfield 7, 3) := by decide +kernel
theorem dX11_act_99 : decode cX11_act 99 = .ok (.iload_n 3, 1) := by decide +kernel
theorem dX11_act_100 : decode cX11_act 100 = .ok (.iaload, 1) := by decide +kernel
theorem dX11_act_101 : decode cX11_act 101 = .ok (.invokestatic 93, 3) := by decide +kernel
theorem dX11_act_104 : decode cX11_act 104 = .ok (.lrem, 1) := by decide +kernel
theorem dX11_act_105 : decode cX11_act 105 = .ok (.lastore, 1) := by decide +kernel
theorem dX11_act_106 : decode cX11_act 106 = .ok (.iconst 1, 1) := by decide +kernel
theorem dX11_act_107 : decode cX11_act 107 = .ok (.ireturn, 1) := by decide +kernel
theorem dX11_act_108 : decode cX11_act 108 = .ok (.aload_n 0, 1) := by decide +kernel
theorem dX11_act_109 : decode cX11_act 109 = .ok (.iload_n 3, 1) := by decide +kernel
theorem dX11_act_110 : decode cX11_act 110 = .ok (.aload_n 0, 1) := by decide +kernel
theorem dX11_act_111 : decode cX11_act 111 = .ok (.getfield 13, 3) := by decide +kernel
theorem dX11_act_114 : decode cX11_act 114 = .ok (.iload_n 3, 1) := by decide +kernel
theorem dX11_act_115 : decode cX11_act 115 = .ok (.laload, 1) := by decide +kernel
theorem dX11_act_116 : decode cX11_act 116 = .ok (.aload_n 0, 1) := by decide +kernel
theorem dX11_act_117 : decode cX11_act 117 = .ok (.getfield 13, 3) := by decide +kernel
theorem dX11_act_120 : decode cX11_act 120 = .ok (.iload_n 2, 1) := by decide +kernel
theorem dX11_act_121 : decode cX11_act 121 = .ok (.laload, 1) := by decide +kernel
theorem dX11_act_122 : decode cX11_act 122 = .ok (.ladd, 1) := by decide +kernel
theorem dX11_act_123 : decode cX11_act 123 = .ok (.invokevirtual 124, 3) := by decide +kernel
theorem dX11_act_126 : decode cX11_act 126 = .ok (.ireturn, 1) := by decide +kernel
theorem dX11_act_127 : decode cX11_act 127 = .ok (.aload_n 0, 1) := by decide +kernel
theorem dX11_act_128 : decode cX11_act 128 = .ok (.iload_n 3, 1) := by decide +kernel
theorem dX11_act_129 : decode cX11_act 129 = .ok (.aload_n 0, 1) := by decide +kernel
theorem dX11_act_130 : decode cX11_act 130 = .ok (.getfield 13, 3) := by decide +kernel
theorem dX11_act_133 : decode cX11_act 133 = .ok (.iload_n 3, 1) := by decide +kernel
theorem dX11_act_134 : decode cX11_act 134 = .ok (.laload, 1) := by decide +kernel
theorem dX11_act_135 : decode cX11_act 135 = .ok (.aload_n 0, 1) := by decide +kernel
theorem dX11_act_136 : decode cX11_act 136 = .ok (.getfield 13, 3) := by decide +kernel
theorem dX11_act_139 : decode cX11_act 139 = .ok (.iload_n 2, 1) := by decide +kernel
theorem dX11_act_140 : decode cX11_act 140 = .ok (.laload, 1) := by decide +kernel
theorem dX11_act_141 : decode cX11_act 141 = .ok (.lsub, 1) := by decide +kernel
theorem dX11_act_142 : decode cX11_act 142 = .ok (.invokevirtual 124, 3) := by decide +kernel
theorem dX11_act_145 : decode cX11_act 145 = .ok (.ireturn, 1) := by decide +kernel
theorem dX11_act_146 : decode cX11_act 146 = .ok (.aload_n 0, 1) := by decide +kernel
theorem dX11_act_147 : decode cX11_act 147 = .ok (.iload_n 2, 1) := by decide +kernel
theorem dX11_act_148 : decode cX11_act 148 = .ok (.iload_n 3, 1) := by decide +kernel
theorem dX11_act_149 : decode cX11_act 149 = .ok (.invokevirtual 128, 3) := by decide +kernel
theorem dX11_act_152 : decode cX11_act 152 = .ok (.ireturn, 1) := by decide +kernel
theorem dX11_act_153 : decode cX11_act 153 = .ok (.aload_n 0, 1) := by decide +kernel
theorem dX11_act_154 : decode cX11_act 154 = .ok (.getfield 13, 3) := by decide +kernel
theorem dX11_act_157 : decode cX11_act 157 = .ok (.iload_n 2, 1) := by decide +kernel
theorem dX11_act_158 : decode cX11_act 158 = .ok (.laload, 1) := by decide +kernel
theorem dX11_act_159 : decode cX11_act 159 = .ok (.lconst 0, 1) := by decide +kernel
theorem dX11_act_160 : decode cX11_act 160 = .ok (.lcmp, 1) := by decide +kernel
theorem dX11_act_161 : decode cX11_act 161 = .ok (.ifCond .eq 28, 3) := by decide +kernel
theorem dX11_act_164 : decode cX11_act 164 = .ok (.aload_n 0, 1) := by decide +kernel
theorem dX11_act_165 : decode cX11_act 165 = .ok (.iload_n 3, 1) := by decide +kernel
theorem dX11_act_166 : decode cX11_act 166 = .ok (.aload_n 0, 1) := by decide +kernel
theorem dX11_act_167 : decode cX11_act 167 = .ok (.getfield 13, 3) := by decide +kernel
theorem dX11_act_170 : decode cX11_act 170 = .ok (.iload_n 3, 1) := by decide +kernel
theorem dX11_act_171 : decode cX11_act 171 = .ok (.laload, 1) := by decide +kernel
theorem dX11_act_172 : decode cX11_act 172 = .ok (.aload_n 0, 1) := by decide +kernel
theorem dX11_act_173 : decode cX11_act 173 = .ok (.getfield 13, 3) := by decide +kernel
theorem dX11_act_176 : decode cX11_act 176 = .ok (.iload_n 2, 1) := by decide +kernel
theorem dX11_act_177 : decode cX11_act 177 = .ok (.laload, 1) := by decide +kernel
theorem dX11_act_178 : decode cX11_act 178 = .ok (.ldiv, 1) := by decide +kernel
theorem dX11_act_179 : decode cX11_act 179 = .ok (.invokevirtual 124, 3) := by decide +kernel
theorem dX11_act_182 : decode cX11_act 182 = .ok (.ifCond .eq 7, 3) := by decide +kernel
theorem dX11_act_185 : decode cX11_act 185 = .ok (.iconst 1, 1) := by decide +kernel
theorem dX11_act_186 : decode cX11_act 186 = .ok (.goto 4, 3) := by decide +kernel
theorem dX11_act_189 : decode cX11_act 189 = .ok (.iconst 0, 1) := by decide +kernel
theorem dX11_act_190 : decode cX11_act 190 = .ok (.ireturn, 1) := by decide +kernel
theorem dX11_act_191 : decode cX11_act 191 = .ok (.aload_n 0, 1) := by decide +kernel
theorem dX11_act_192 : decode cX11_act 192 = .ok (.iload_n 3, 1) := by decide +kernel
theorem dX11_act_193 : decode cX11_act 193 = .ok (.invokevirtual 132, 3) := by decide +kernel
theorem dX11_act_196 : decode cX11_act 196 = .ok (.aload_n 0, 1) := by decide +kernel
theorem dX11_act_197 : decode cX11_act 197 = .ok (.iload_n 2, 1) := by decide +kernel
theorem dX11_act_198 : decode cX11_act 198 = .ok (.invokevirtual 132, 3) := by decide +kernel
theorem dX11_act_201 : decode cX11_act 201 = .ok (.iconst 1, 1) := by decide +kernel
theorem dX11_act_202 : decode cX11_act 202 = .ok (.ireturn, 1) := by decide +kernel
theorem dX11_act_203 : decode cX11_act 203 = .ok (.aload_n 0, 1) := by decide +kernel
theorem dX11_act_204 : decode cX11_act 204 = .ok (.getfield 20, 3) := by decide +kernel
theorem dX11_act_207 : decode cX11_act 207 = .ok (.iload_n 1, 1) := by decide +kernel
theorem dX11_act_208 : decode cX11_act 208 = .ok (.iaload, 1) := by decide +kernel
theorem dX11_act_209 : decode cX11_act 209 = .ok (.bipush 7, 2) := by decide +kernel
theorem dX11_act_211 : decode cX11_act 211 = .ok (.if_icmp .ne 17, 3) := by decide +kernel
theorem dX11_act_214 : decode cX11_act 214 = .ok (.aload_n 0, 1) := by decide +kernel
theorem dX11_act_215 : decode cX11_act 215 = .ok (.getfield 13, 3) := by decide +kernel
theorem dX11_act_218 : decode cX11_act 218 = .ok (.iload_n 2, 1) := by decide +kernel
theorem dX11_act_219 : decode cX11_act 219 = .ok (.laload, 1) := by decide +kernel
theorem dX11_act_220 : decode cX11_act 220 = .ok (.lconst 0, 1) := by decide +kernel
theorem dX11_act_221 : decode cX11_act 221 = .ok (.lcmp, 1) := by decide +kernel
theorem dX11_act_222 : decode cX11_act 222 = .ok (.ifCond .eq 22, 3) := by decide +kernel
theorem dX11_act_225 : decode cX11_act 225 = .ok (.goto 14, 3) := by decide +kernel
theorem dX11_act_228 : decode cX11_act 228 = .ok (.aload_n 0, 1) := by decide +kernel
theorem dX11_act_229 : decode cX11_act 229 = .ok (.getfield 13, 3) := by decide +kernel
theorem dX11_act_232 : decode cX11_act 232 = .ok (.iload_n 2, 1) := by decide +kernel
theorem dX11_act_233 : decode cX11_act 233 = .ok (.laload, 1) := by decide +kernel
theorem dX11_act_234 : decode cX11_act 234 = .ok (.lconst 0, 1) := by decide +kernel
theorem dX11_act_235 : decode cX11_act 235 = .ok (.lcmp, 1) := by decide +kernel
theorem dX11_act_236 : decode cX11_act 236 = .ok (.ifCond .ge 8, 3) := by decide +kernel
theorem dX11_act_239 : decode cX11_act 239 = .ok (.aload_n 0, 1) := by decide +kernel
theorem dX11_act_240 : decode cX11_act 240 = .ok (.iload_n 3, 1) := by decide +kernel
theorem dX11_act_241 : decode cX11_act 241 = .ok (.invokevirtual 132, 3) := by decide +kernel
theorem dX11_act_244 : decode cX11_act 244 = .ok (.iconst 1, 1) := by decide +kernel
theorem dX11_act_245 : decode cX11_act 245 = .ok (.ireturn, 1) := by decide +kernel
theorem dX11_act_246 : decode cX11_act 246 = .ok (.aload_n 0, 1) := by decide +kernel
theorem dX11_act_247 : decode cX11_act 247 = .ok (.iload_n 1, 1) := by decide +kernel
theorem dX11_act_248 : decode cX11_act 248 = .ok (.ineg, 1) := by decide +kernel
theorem dX11_act_249 : decode cX11_act 249 = .ok (.invokevirtual 132, 3) := by decide +kernel
theorem dX11_act_252 : decode cX11_act 252 = .ok (.iconst 1, 1) := by decide +kernel
theorem dX11_act_253 : decode cX11_act 253 = .ok (.ireturn, 1) := by decide +kernel
theorem dX11_act_254 : decode cX11_act 254 = .ok (.aload_n 0, 1) := by decide +kernel
theorem dX11_act_255 : decode cX11_act 255 = .ok (.iload_n 2, 1) := by decide +kernel
theorem dX11_act_256 : decode cX11_act 256 = .ok (.iload_n 3, 1) := by decide +kernel
theorem dX11_act_257 : decode cX11_act 257 = .ok (.invokevirtual 136, 3) := by decide +kernel
theorem dX11_act_260 : decode cX11_act 260 = .ok (.ireturn, 1) := by decide +kernel
theorem dX11_act_261 : decode cX11_act 261 = .ok (.aload_n 0, 1) := by decide +kernel
theorem dX11_act_262 : decode cX11_act 262 = .ok (.getfield 13, 3) := by decide +kernel
theorem dX11_act_265 : decode cX11_act 265 = .ok (.iload_n 2, 1) := by decide +kernel
theorem dX11_act_266 : decode cX11_act 266 = .ok (.laload, 1) := by decide +kernel
theorem dX11_act_267 : decode cX11_act 267 = .ok (.lconst 0, 1) := by decide +kernel
theorem dX11_act_268 : decode cX11_act 268 = .ok (.lcmp, 1) := by decide +kernel
theorem dX11_act_269 : decode cX11_act 269 = .ok (.ifCond .lt 40, 3) := by decide +kernel
theorem dX11_act_272 : decode cX11_act 272 = .ok (.aload_n 0, 1) := by decide +kernel
theorem dX11_act_273 : decode cX11_act 273 = .ok (.getfield 13, 3) := by decide +kernel
theorem dX11_act_276 : decode cX11_act 276 = .ok (.iload_n 2, 1) := by decide +kernel
theorem dX11_act_277 : decode cX11_act 277 = .ok (.laload, 1) := by decide +kernel
theorem dX11_act_278 : decode cX11_act 278 = .ok (.ldc2_w 139, 3) := by decide +kernel
theorem dX11_act_281 : decode cX11_act 281 = .ok (.lcmp, 1) := by decide +kernel
theorem dX11_act_282 : decode cX11_act 282 = .ok (.ifCond .gt 27, 3) := by decide +kernel
theorem dX11_act_285 : decode cX11_act 285 = .ok (.aload_n 0, 1) := by decide +kernel
theorem dX11_act_286 : decode cX11_act 286 = .ok (.iconst 0, 1) := by decide +kernel
theorem dX11_act_287 : decode cX11_act 287 = .ok (.aload_n 0, 1) := by decide +kernel
theorem dX11_act_288 : decode cX11_act 288 = .ok (.getfield 13, 3) := by decide +kernel
theorem dX11_act_291 : decode cX11_act 291 = .ok (.iload_n 2, 1) := by decide +kernel
theorem dX11_act_292 : decode cX11_act 292 = .ok (.laload, 1) := by decide +kernel
theorem dX11_act_293 : decode cX11_act 293 = .ok (.aload_n 0, 1) := by decide +kernel
theorem dX11_act_294 : decode cX11_act 294 = .ok (.getfield 13, 3) := by decide +kernel
theorem dX11_act_297 : decode cX11_act 297 = .ok (.iload_n 3, 1) := by decide +kernel
theorem dX11_act_298 : decode cX11_act 298 = .ok (.laload, 1) := by decide +kernel
theorem dX11_act_299 : decode cX11_act 299 = .ok (.invokevirtual 120, 3) := by decide +kernel
theorem dX11_act_302 : decode cX11_act 302 = .ok (.ifCond .eq 7, 3) := by decide +kernel
theorem dX11_act_305 : decode cX11_act 305 = .ok (.iconst 1, 1) := by decide +kernel
theorem dX11_act_306 : decode cX11_act 306 = .ok (.goto 4, 3) := by decide +kernel
theorem dX11_act_309 : decode cX11_act 309 = .ok (.iconst 0, 1) := by decide +kernel
theorem dX11_act_310 : decode cX11_act 310 = .ok (.ireturn, 1) := by decide +kernel
theorem dX11_act_311 : decode cX11_act 311 = .ok (.aload_n 0, 1) := by decide +kernel
theorem dX11_act_312 : decode cX11_act 312 = .ok (.getfield 20, 3) := by decide +kernel
theorem dX11_act_315 : decode cX11_act 315 = .ok (.iload_n 1, 1) := by decide +kernel
theorem dX11_act_316 : decode cX11_act 316 = .ok (.iaload, 1) := by decide +kernel
theorem dX11_act_317 : decode cX11_act 317 = .ok (.ifCond .ne 7, 3) := by decide +kernel
theorem dX11_act_320 : decode cX11_act 320 = .ok (.iconst 1, 1) := by decide +kernel
theorem dX11_act_321 : decode cX11_act 321 = .ok (.goto 4, 3) := by decide +kernel
theorem dX11_act_324 : decode cX11_act 324 = .ok (.iconst 0, 1) := by decide +kernel
theorem dX11_act_325 : decode cX11_act 325 = .ok (.ireturn, 1) := by decide +kernel
set_option maxRecDepth 20000 in
theorem ggX11_run_X11_isNode : GoodIn wsX11_run wsX11_isNode := goodIn_r _ [16, 17, 92, 93, 94, 95, 96, 97, 98, 99, 100, 101, 102, 103, 104, 105, 106, 107, 108, 109, 110, 111, 112, 113, 114, 115, 116, 117, 118, 119, 120, 121, 122] (by decide +kernel) (by decide +kernel)
set_option maxRecDepth 20000 in
theorem gX11_run_X11_isNode : GoodIn wsX11_run (wsV RX11 107 RX11 yX11_isNode wsX11_isNode) := goodIn_app (goodIn_of _ (by decide +kernel)) ggX11_run_X11_isNode
set_option maxRecDepth 20000 in
theorem ggX11_run_X11_refuse : GoodIn wsX11_run wsX11_refuse := goodIn_r _ [21, 22, 92, 93, 94, 95, 96, 97, 98, 99, 100, 101, 102, 103, 104, 105, 106, 107, 108, 109, 110, 111, 112, 113, 114, 115, 116, 117, 118, 119, 120, 121, 122] (by decide +kernel) (by decide +kernel)
set_option maxRecDepth 20000 in
theorem gX11_run_X11_refuse : GoodIn wsX11_run (wsV RX11 89 RX11 yX11_refuse wsX11_refuse) := goodIn_app (goodIn_of _ (by decide +kernel)) ggX11_run_X11_refuse
set_option maxRecDepth 20000 in
theorem ggX11_run_X11_push : GoodIn wsX11_run wsX11_push := goodIn_r _ [26, 8, 6, 92, 93, 94, 95, 96, 97, 98, 99, 100, 101, 102, 103, 104, 105, 106, 107, 108, 109, 110, 111, 112, 113, 114, 115, 116, 117, 118, 119, 120, 121, 122] (by decide +kernel) (by decide +kernel)
set_option maxRecDepth 20000 in
theorem gX11_run_X11_push : GoodIn wsX11_run (wsV RX11 132 RX11 yX11_push wsX11_push) := goodIn_app (goodIn_of _ (by decide +kernel)) ggX11_run_X11_push
set_option maxRecDepth 20000 in
theorem ggX11_run_X11_step : GoodIn wsX11_run wsX11_step := goodIn_r _ [30, 5, 31, 92, 93, 94, 95, 96, 97, 98, 99, 100, 101, 102, 103, 104, 105, 106, 107, 108, 109, 110, 111, 112, 113, 114, 115, 116, 117, 118, 119, 120, 121, 122] (by decide +kernel) (by decide +kernel)
set_option maxRecDepth 20000 in
theorem gX11_run_X11_step : GoodIn wsX11_run (wsV RX11 141 RX11 yX11_step wsX11_step) := goodIn_app (goodIn_of _ (by decide +kernel)) ggX11_run_X11_step
set_option maxRecDepth 20000 in
theorem ggX11_run_X11_act : GoodIn wsX11_run wsX11_act := goodIn_r _ [35, 9, 10, 36, 4, 37, 38, 39, 40, 15, 41, 42, 43, 44, 45, 46, 47, 48, 49, 50, 23, 24, 25, 26, 8, 6, 51, 52, 53, 54, 55, 56, 57, 58, 7, 59, 60, 61, 92, 93, 94, 95, 96, 97, 98, 99, 100, 101, 102, 103, 104, 105, 106, 107, 108, 109, 110, 111, 112, 113, 114, 115, 116, 117, 118, 119, 120, 121, 122] (by decide +kernel) (by decide +kernel)
set_option maxRecDepth 20000 in
theorem gX11_run_X11_act : GoodIn wsX11_run (wsV RX11 145 RX11 yX11_act wsX11_act) := goodIn_app (goodIn_of _ (by decide +kernel)) ggX11_run_X11_act
set_option maxRecDepth 20000 in
theorem ggX11_run_X11_settle : GoodIn wsX11_run wsX11_settle := goodIn_r _ [65, 7, 59, 60, 61, 11, 66, 67, 68, 15, 69, 70, 71, 72, 73, 74, 75, 76, 77, 78, 79, 80, 81, 82, 83, 84, 85, 86, 87, 88, 89, 90, 91, 92, 93, 94, 95, 96, 97, 98, 99, 100, 101, 102, 103, 104, 105, 106, 107, 108, 109, 110, 111, 112, 113, 114, 115, 116, 117, 118, 119, 120, 121, 122] (by decide +kernel) (by decide +kernel)
set_option maxRecDepth 20000 in
theorem gX11_run_X11_settle : GoodIn wsX11_run (wsV RX11 151 RX11 yX11_settle wsX11_settle) := goodIn_app (goodIn_of _ (by decide +kernel)) ggX11_run_X11_settle
theorem dX11_run_0 : decode cX11_run 0 = .ok (.aload_n 0, 1) := by decide +kernel
theorem dX11_run_1 : decode cX11_run 1 = .ok (.iconst 0, 1) := by decide +kernel
theorem dX11_run_2 : decode cX11_run 2 = .ok (.putfield 75, 3) := by decide +kernel
theorem dX11_run_5 : decode cX11_run 5 = .ok (.aload_n 0, 1) := by decide +kernel
theorem dX11_run_6 : decode cX11_run 6 = .ok (.iload_n 1, 1) := by decide +kernel
theorem dX11_run_7 : decode cX11_run 7 = .ok (.invokevirtual 107, 3) := by decide +kernel
theorem dX11_run_10 : decode cX11_run 10 = .ok (.ifCond .ne 10, 3) := by decide +kernel
theorem dX11_run_13 : decode cX11_run 13 = .ok (.aload_n 0, 1) := by decide +kernel
theorem dX11_run_14 : decode cX11_run 14 = .ok (.bipush (-2), 2) := by decide +kernel
theorem dX11_run_16 : decode cX11_run 16 = .ok (.invokevirtual 89, 3) := by decide +kernel
theorem dX11_run_19 : decode cX11_run 19 = .ok (.ireturn, 1) := by decide +kernel
theorem dX11_run_20 : decode cX11_run 20 = .ok (.iconst 1, 1) := by decide +kernel
theorem dX11_run_21 : decode cX11_run 21 = .ok (.istore_n 2, 1) := by decide +kernel
theorem dX11_run_22 : decode cX11_run 22 = .ok (.iload_n 2, 1) := by decide +kernel
theorem dX11_run_23 : decode cX11_run 23 = .ok (.aload_n 0, 1) := by decide +kernel
theorem dX11_run_24 : decode cX11_run 24 = .ok (.getfield 83, 3) := by decide +kernel
theorem dX11_run_27 : decode cX11_run 27 = .ok (.if_icmp .gt 21, 3) := by decide +kernel
theorem dX11_run_30 : decode cX11_run 30 = .ok (.aload_n 0, 1) := by decide +kernel
theorem dX11_run_31 : decode cX11_run 31 = .ok (.getfield 17, 3) := by decide +kernel
theorem dX11_run_34 : decode cX11_run 34 = .ok (.iload_n 2, 1) := by decide +kernel
theorem dX11_run_35 : decode cX11_run 35 = .ok (.aload_n 0, 1) := by decide +kernel
theorem dX11_run_36 : decode cX11_run 36 = .ok (.getfield 13, 3) := by decide +kernel
theorem dX11_run_39 : decode cX11_run 39 = .ok (.iload_n 2, 1) := by decide +kernel
theorem dX11_run_40 : decode cX11_run 40 = .ok (.laload, 1) := by decide +kernel
theorem dX11_run_41 : decode cX11_run 41 = .ok (.lastore, 1) := by decide +kernel
theorem dX11_run_42 : decode cX11_run 42 = .ok (.iinc 2 1, 3) := by decide +kernel
theorem dX11_run_45 : decode cX11_run 45 = .ok (.goto (-23), 3) := by decide +kernel
theorem dX11_run_48 : decode cX11_run 48 = .ok (.aload_n 0, 1) := by decide +kernel
theorem dX11_run_49 : decode cX11_run 49 = .ok (.iconst 0, 1) := by decide +kernel
theorem dX11_run_50 : decode cX11_run 50 = .ok (.putfield 114, 3) := by decide +kernel
theorem dX11_run_53 : decode cX11_run 53 = .ok (.aload_n 0, 1) := by decide +kernel
theorem dX11_run_54 : decode cX11_run 54 = .ok (.iconst 0, 1) := by decide +kernel
theorem dX11_run_55 : decode cX11_run 55 = .ok (.putfield 117, 3) := by decide +kernel
theorem dX11_run_58 : decode cX11_run 58 = .ok (.aload_n 0, 1) := by decide +kernel
theorem dX11_run_59 : decode cX11_run 59 = .ok (.getfield 32, 3) := by decide +kernel
theorem dX11_run_62 : decode cX11_run 62 = .ok (.iconst 0, 1) := by decide +kernel
theorem dX11_run_63 : decode cX11_run 63 = .ok (.iconst 0, 1) := by decide +kernel
theorem dX11_run_64 : decode cX11_run 64 = .ok (.iastore, 1) := by decide +kernel
theorem dX11_run_65 : decode cX11_run 65 = .ok (.iconst 1, 1) := by decide +kernel
theorem dX11_run_66 : decode cX11_run 66 = .ok (.istore_n 2, 1) := by decide +kernel
theorem dX11_run_67 : decode cX11_run 67 = .ok (.iconst 1, 1) := by decide +kernel
theorem dX11_run_68 : decode cX11_run 68 = .ok (.istore_n 3, 1) := by decide +kernel
theorem dX11_run_69 : decode cX11_run 69 = .ok (.aload_n 0, 1) := by decide +kernel
theorem dX11_run_70 : decode cX11_run 70 = .ok (.iload_n 1, 1) := by decide +kernel
theorem dX11_run_71 : decode cX11_run 71 = .ok (.invokevirtual 132, 3) := by decide +kernel
theorem dX11_run_74 : decode cX11_run 74 = .ok (.aload_n 0, 1) := by decide +kernel
theorem dX11_run_75 : decode cX11_run 75 = .ok (.getfield 117, 3) := by decide +kernel
theorem dX11_run_78 : decode cX11_run 78 = .ok (.ifCond .le 108, 3) := by decide +kernel
theorem dX11_run_81 : decode cX11_run 81 = .ok (.iload_n 2, 1) := by decide +kernel
theorem dX11_run_82 : decode cX11_run 82 = .ok (.ifCond .eq 104, 3) := by decide +kernel
theorem dX11_run_85 : decode cX11_run 85 = .ok (.iload_n 3, 1) := by decide +kernel
theorem dX11_run_86 : decode cX11_run 86 = .ok (.ifCond .eq 100, 3) := by decide +kernel
theorem dX11_run_89 : decode cX11_run 89 = .ok (.aload_n 0, 1) := by decide +kernel
theorem dX11_run_90 : decode cX11_run 90 = .ok (.dup, 1) := by decide +kernel
theorem dX11_run_91 : decode cX11_run 91 = .ok (.getfield 117, 3) := by decide +kernel
theorem dX11_run_94 : decode cX11_run 94 = .ok (.iconst 1, 1) := by decide +kernel
theorem dX11_run_95 : decode cX11_run 95 = .ok (.isub, 1) := by decide +kernel
theorem dX11_run_96 : decode cX11_run 96 = .ok (.putfield 117, 3) := by decide +kernel
theorem dX11_run_99 : decode cX11_run 99 = .ok (.aload_n 0, 1) := by decide +kernel
theorem dX11_run_100 : decode cX11_run 100 = .ok (.getfield 29, 3) := by decide +kernel
theorem dX11_run_103 : decode cX11_run 103 = .ok (.aload_n 0, 1) := by decide +kernel
theorem dX11_run_104 : decode cX11_run 104 = .ok (.getfield 117, 3) := by decide +kernel
theorem dX11_run_107 : decode cX11_run 107 = .ok (.iaload, 1) := by decide +kernel
theorem dX11_run_108 : decode cX11_run 108 = .ok (.istore 4, 2) := by decide +kernel
theorem dX11_run_110 : decode cX11_run 110 = .ok (.iload 4, 2) := by decide +kernel
theorem dX11_run_112 : decode cX11_run 112 = .ok (.ifCond .le 30, 3) := by decide +kernel
theorem dX11_run_115 : decode cX11_run 115 = .ok (.aload_n 0, 1) := by decide +kernel
theorem dX11_run_116 : decode cX11_run 116 = .ok (.invokevirtual 141, 3) := by decide +kernel
theorem dX11_run_119 : decode cX11_run 119 = .ok (.istore_n 3, 1) := by decide +kernel
theorem dX11_run_120 : decode cX11_run 120 = .ok (.iload_n 3, 1) := by decide +kernel
theorem dX11_run_121 : decode cX11_run 121 = .ok (.ifCond .eq 12, 3) := by decide +kernel
theorem dX11_run_124 : decode cX11_run 124 = .ok (.aload_n 0, 1) := by decide +kernel
theorem dX11_run_125 : decode cX11_run 125 = .ok (.iload 4, 2) := by decide +kernel
theorem dX11_run_127 : decode cX11_run 127 = .ok (.invokevirtual 145, 3) := by decide +kernel
theorem dX11_run_130 : decode cX11_run 130 = .ok (.ifCond .eq 7, 3) := by decide +kernel
theorem dX11_run_133 : decode cX11_run 133 = .ok (.iconst 1, 1) := by decide +kernel
theorem dX11_run_134 : decode cX11_run 134 = .ok (.goto 4, 3) := by decide +kernel
theorem dX11_run_137 : decode cX11_run 137 = .ok (.iconst 0, 1) := by decide +kernel
theorem dX11_run_138 : decode cX11_run 138 = .ok (.istore_n 2, 1) := by decide +kernel
theorem dX11_run_139 : decode cX11_run 139 = .ok (.goto 44, 3) := by decide +kernel
theorem dX11_run_142 : decode cX11_run 142 = .ok (.aload_n 0, 1) := by decide +kernel
theorem dX11_run_143 : decode cX11_run 143 = .ok (.getfield 13, 3) := by decide +kernel
theorem dX11_run_146 : decode cX11_run 146 = .ok (.aload_n 0, 1) := by decide +kernel
theorem dX11_run_147 : decode cX11_run 147 = .ok (.getfield 23, 3) := by decide +kernel
theorem dX11_run_150 : decode cX11_run 150 = .ok (.iload 4, 2) := by decide +kernel
theorem dX11_run_152 : decode cX11_run 152 = .ok (.ineg, 1) := by decide +kernel
theorem dX11_run_153 : decode cX11_run 153 = .ok (.iaload, 1) := by decide +kernel
theorem dX11_run_154 : decode cX11_run 154 = .ok (.laload, 1) := by decide +kernel
theorem dX11_run_155 : decode cX11_run 155 = .ok (.lconst 0, 1) := by decide +kernel
theorem dX11_run_156 : decode cX11_run 156 = .ok (.lcmp, 1) := by decide +kernel
theorem dX11_run_157 : decode cX11_run 157 = .ok (.ifCond .eq 26, 3) := by decide +kernel
theorem dX11_run_160 : decode cX11_run 160 = .ok (.aload_n 0, 1) := by decide +kernel
theorem dX11_run_161 : decode cX11_run 161 = .ok (.invokevirtual 141, 3) := by decide +kernel
theorem dX11_run_164 : decode cX11_run 164 = .ok (.istore_n 3, 1) := by decide +kernel
theorem dX11_run_165 : decode cX11_run 165 = .ok (.aload_n 0, 1) := by decide +kernel
theorem dX11_run_166 : decode cX11_run 166 = .ok (.iload 4, 2) := by decide +kernel
theorem dX11_run_168 : decode cX11_run 168 = .ok (.invokevirtual 132, 3) := by decide +kernel
theorem dX11_run_171 : decode cX11_run 171 = .ok (.aload_n 0, 1) := by decide +kernel
theorem dX11_run_172 : decode cX11_run 172 = .ok (.aload_n 0, 1) := by decide +kernel
theorem dX11_run_173 : decode cX11_run 173 = .ok (.getfield 26, 3) := by decide +kernel
theorem dX11_run_176 : decode cX11_run 176 = .ok (.iload 4, 2) := by decide +kernel
theorem dX11_run_178 : decode cX11_run 178 = .ok (.ineg, 1) := by decide +kernel
theorem dX11_run_179 : decode cX11_run 179 = .ok (.iaload, 1) := by decide +kernel
theorem dX11_run_180 : decode cX11_run 180 = .ok (.invokevirtual 132, 3) := by decide +kernel
theorem dX11_run_183 : decode cX11_run 183 = .ok (.goto (-109), 3) := by decide +kernel
theorem dX11_run_186 : decode cX11_run 186 = .ok (.iload_n 3, 1) := by decide +kernel
theorem dX11_run_187 : decode cX11_run 187 = .ok (.ifCond .ne 35, 3) := by decide +kernel
theorem dX11_run_190 : decode cX11_run 190 = .ok (.iconst 1, 1) := by decide +kernel
theorem dX11_run_191 : decode cX11_run 191 = .ok (.istore 4, 2) := by decide +kernel
theorem dX11_run_193 : decode cX11_run 193 = .ok (.iload 4, 2) := by decide +kernel
theorem dX11_run_195 : decode cX11_run 195 = .ok (.aload_n 0, 1) := by decide +kernel
theorem dX11_run_196 : decode cX11_run 196 = .ok (.getfield 83, 3) := by decide +kernel
theorem dX11_run_199 : decode cX11_run 199 = .ok (.if_icmp .gt 23, 3) := by decide +kernel
theorem dX11_run_202 : decode cX11_run 202 = .ok (.aload_n 0, 1) := by decide +kernel
theorem dX11_run_203 : decode cX11_run 203 = .ok (.getfield 13, 3) := by decide +kernel
theorem dX11_run_206 : decode cX11_run 206 = .ok (.iload 4, 2) := by decide +kernel
theorem dX11_run_208 : decode cX11_run 208 = .ok (.aload_n 0, 1) := by decide +kernel
theorem dX11_run_209 : decode cX11_run 209 = .ok (.getfield 17, 3) := by decide +kernel
theorem dX11_run_212 : decode cX11_run 212 = .ok (.iload 4, 2) := by decide +kernel
theorem dX11_run_214 : decode cX11_run 214 = .ok (.laload, 1) := by decide +kernel
theorem dX11_run_215 : decode cX11_run 215 = .ok (.lastore, 1) := by decide +kernel
theorem dX11_run_216 : decode cX11_run 216 = .ok (.iinc 4 1, 3) := by decide +kernel
theorem dX11_run_219 : decode cX11_run 219 = .ok (.goto (-26), 3) := by decide +kernel
theorem dX11_run_222 : decode cX11_run 222 = .ok (.iload_n 3, 1) := by decide +kernel
theorem dX11_run_223 : decode cX11_run 223 = .ok (.ifCond .eq 28, 3) := by decide +kernel
theorem dX11_run_226 : decode cX11_run 226 = .ok (.iload_n 2, 1) := by decide +kernel
theorem dX11_run_227 : decode cX11_run 227 = .ok (.ifCond .eq 24, 3) := by decide +kernel
theorem dX11_run_230 : decode cX11_run 230 = .ok (.aload_n 0, 1) := by decide +kernel
theorem dX11_run_231 : decode cX11_run 231 = .ok (.getfield 148, 3) := by decide +kernel
theorem dX11_run_234 : decode cX11_run 234 = .ok (.aload_n 0, 1) := by decide +kernel
theorem dX11_run_235 : decode cX11_run 235 = .ok (.getfield 32, 3) := by decide +kernel
theorem dX11_run_238 : decode cX11_run 238 = .ok (.iconst 0, 1) := by decide +kernel
theorem dX11_run_239 : decode cX11_run 239 = .ok (.iaload, 1) := by decide +kernel
theorem dX11_run_240 : decode cX11_run 240 = .ok (.iadd, 1) := by decide +kernel
theorem dX11_run_241 : decode cX11_run 241 = .ok (.sipush 1000, 3) := by decide +kernel
theorem dX11_run_244 : decode cX11_run 244 = .ok (.if_icmp .gt 7, 3) := by decide +kernel
theorem dX11_run_247 : decode cX11_run 247 = .ok (.iconst 1, 1) := by decide +kernel
theorem dX11_run_248 : decode cX11_run 248 = .ok (.goto 4, 3) := by decide +kernel
theorem dX11_run_251 : decode cX11_run 251 = .ok (.iconst 0, 1) := by decide +kernel
theorem dX11_run_252 : decode cX11_run 252 = .ok (.istore 4, 2) := by decide +kernel
theorem dX11_run_254 : decode cX11_run 254 = .ok (.iload 4, 2) := by decide +kernel
theorem dX11_run_256 : decode cX11_run 256 = .ok (.ifCond .eq 9, 3) := by decide +kernel
theorem dX11_run_259 : decode cX11_run 259 = .ok (.aload_n 0, 1) := by decide +kernel
theorem dX11_run_260 : decode cX11_run 260 = .ok (.iconst 0, 1) := by decide +kernel
theorem dX11_run_261 : decode cX11_run 261 = .ok (.iconst 0, 1) := by decide +kernel
theorem dX11_run_262 : decode cX11_run 262 = .ok (.invokevirtual 151, 3) := by decide +kernel
theorem dX11_run_265 : decode cX11_run 265 = .ok (.aload_n 0, 1) := by decide +kernel
theorem dX11_run_266 : decode cX11_run 266 = .ok (.getfield 32, 3) := by decide +kernel
theorem dX11_run_269 : decode cX11_run 269 = .ok (.iconst 0, 1) := by decide +kernel
theorem dX11_run_270 : decode cX11_run 270 = .ok (.iconst 0, 1) := by decide +kernel
theorem dX11_run_271 : decode cX11_run 271 = .ok (.iastore, 1) := by decide +kernel
theorem dX11_run_272 : decode cX11_run 272 = .ok (.iload_n 3, 1) := by decide +kernel
theorem dX11_run_273 : decode cX11_run 273 = .ok (.ifCond .ne 7, 3) := by decide +kernel
theorem dX11_run_276 : decode cX11_run 276 = .ok (.iconst 0, 1) := by decide +kernel
theorem dX11_run_277 : decode cX11_run 277 = .ok (.goto 13, 3) := by decide +kernel
theorem dX11_run_280 : decode cX11_run 280 = .ok (.iload 4, 2) := by decide +kernel
theorem dX11_run_282 : decode cX11_run 282 = .ok (.ifCond .eq 7, 3) := by decide +kernel
theorem dX11_run_285 : decode cX11_run 285 = .ok (.iconst 1, 1) := by decide +kernel
theorem dX11_run_286 : decode cX11_run 286 = .ok (.goto 4, 3) := by decide +kernel
theorem dX11_run_289 : decode cX11_run 289 = .ok (.iconst 2, 1) := by decide +kernel
theorem dX11_run_290 : decode cX11_run 290 = .ok (.ireturn, 1) := by decide +kernel
set_option maxRecDepth 20000 in
theorem ggX11_act__X11_refuse : GoodIn wsX11_act_ wsX11_refuse := goodIn_r _ [14, 15, 21, 22, 23, 24, 25, 26, 27, 28, 29, 30, 31, 32, 33, 34, 35, 36, 37, 38, 39, 40, 41, 42, 43, 44, 45, 46, 47, 48, 49, 50, 51] (by decide +kernel) (by decide +kernel)
set_option maxRecDepth 20000 in
theorem gX11_act__X11_refuse : GoodIn wsX11_act_ (wsV RX11 89 RX11 yX11_refuse wsX11_refuse) := goodIn_app (goodIn_of _ (by decide +kernel)) ggX11_act__X11_refuse
set_option maxRecDepth 20000 in
theorem ggX11_act__X11_isPlace : GoodIn wsX11_act_ wsX11_isPlace := goodIn_r _ [18, 3, 19, 20] (by decide +kernel) (by decide +kernel)
set_option maxRecDepth 20000 in
theorem gX11_act__X11_isPlace : GoodIn wsX11_act_ (va_wsS RX11 110 yX11_isPlace wsX11_isPlace) := goodIn_app (goodIn_of _ (by decide +kernel)) ggX11_act__X11_isPlace
theorem dX11_act__0 : decode cX11_act_ 0 = .ok (.aload_n 0, 1) := by decide +kernel
theorem dX11_act__1 : decode cX11_act_ 1 = .ok (.iconst 0, 1) := by decide +kernel
theorem dX11_act__2 : decode cX11_act_ 2 = .ok (.putfield 75, 3) := by decide +kernel
theorem dX11_act__5 : decode cX11_act_ 5 = .ok (.iload_n 1, 1) := by decide +kernel
theorem dX11_act__6 : decode cX11_act_ 6 = .ok (.iconst 1, 1) := by decide +kernel
theorem dX11_act__7 : decode cX11_act_ 7 = .ok (.if_icmp .lt 18, 3) := by decide +kernel
theorem dX11_act__10 : decode cX11_act_ 10 = .ok (.iload_n 1, 1) := by decide +kernel
theorem dX11_act__11 : decode cX11_act_ 11 = .ok (.bipush 8, 2) := by decide +kernel
theorem dX11_act__13 : decode cX11_act_ 13 = .ok (.if_icmp .gt 12, 3) := by decide +kernel
theorem dX11_act__16 : decode cX11_act_ 16 = .ok (.iload_n 2, 1) := by decide +kernel
theorem dX11_act__17 : decode cX11_act_ 17 = .ok (.ifCond .lt 8, 3) := by decide +kernel
theorem dX11_act__20 : decode cX11_act_ 20 = .ok (.iload_n 2, 1) := by decide +kernel
theorem dX11_act__21 : decode cX11_act_ 21 = .ok (.iconst 4, 1) := by decide +kernel
theorem dX11_act__22 : decode cX11_act_ 22 = .ok (.if_icmp .le 10, 3) := by decide +kernel
theorem dX11_act__25 : decode cX11_act_ 25 = .ok (.aload_n 0, 1) := by decide +kernel
theorem dX11_act__26 : decode cX11_act_ 26 = .ok (.bipush (-2), 2) := by decide +kernel
theorem dX11_act__28 : decode cX11_act_ 28 = .ok (.invokevirtual 89, 3) := by decide +kernel
theorem dX11_act__31 : decode cX11_act_ 31 = .ok (.ireturn, 1) := by decide +kernel
theorem dX11_act__32 : decode cX11_act_ 32 = .ok (.iload_n 2, 1) := by decide +kernel
theorem dX11_act__33 : decode cX11_act_ 33 = .ok (.iconst 2, 1) := by decide +kernel
theorem dX11_act__34 : decode cX11_act_ 34 = .ok (.if_icmp .ge 25, 3) := by decide +kernel
theorem dX11_act__37 : decode cX11_act_ 37 = .ok (.lload_n 3, 1) := by decide +kernel
theorem dX11_act__38 : decode cX11_act_ 38 = .ok (.lconst 0, 1) := by decide +kernel
theorem dX11_act__39 : decode cX11_act_ 39 = .ok (.lcmp, 1) := by decide +kernel
theorem dX11_act__40 : decode cX11_act_ 40 = .ok (.ifCond .lt 15, 3) := by decide +kernel
theorem dX11_act__43 : decode cX11_act_ 43 = .ok (.lload_n 3, 1) := by decide +kernel
theorem dX11_act__44 : decode cX11_act_ 44 = .ok (.ldc2_w 155, 3) := by decide +kernel
theorem dX11_act__47 : decode cX11_act_ 47 = .ok (.lcmp, 1) := by decide +kernel
theorem dX11_act__48 : decode cX11_act_ 48 = .ok (.ifCond .gt 7, 3) := by decide +kernel
theorem dX11_act__51 : decode cX11_act_ 51 = .ok (.iconst 1, 1) := by decide +kernel
theorem dX11_act__52 : decode cX11_act_ 52 = .ok (.goto 67, 3) := by decide +kernel
theorem dX11_act__55 : decode cX11_act_ 55 = .ok (.iconst 0, 1) := by decide +kernel
theorem dX11_act__56 : decode cX11_act_ 56 = .ok (.goto 63, 3) := by decide +kernel
theorem dX11_act__59 : decode cX11_act_ 59 = .ok (.iload_n 2, 1) := by decide +kernel
theorem dX11_act__60 : decode cX11_act_ 60 = .ok (.iconst 4, 1) := by decide +kernel
theorem dX11_act__61 : decode cX11_act_ 61 = .ok (.if_icmp .ge 28, 3) := by decide +kernel
theorem dX11_act__64 : decode cX11_act_ 64 = .ok (.lload_n 3, 1) := by decide +kernel
theorem dX11_act__65 : decode cX11_act_ 65 = .ok (.iload_n 2, 1) := by decide +kernel
theorem dX11_act__66 : decode cX11_act_ 66 = .ok (.iconst 2, 1) := by decide +kernel
theorem dX11_act__67 : decode cX11_act_ 67 = .ok (.isub, 1) := by decide +kernel
theorem dX11_act__68 : decode cX11_act_ 68 = .ok (.i2l, 1) := by decide +kernel
theorem dX11_act__69 : decode cX11_act_ 69 = .ok (.lcmp, 1) := by decide +kernel
theorem dX11_act__70 : decode cX11_act_ 70 = .ok (.ifCond .lt 15, 3) := by decide +kernel
theorem dX11_act__73 : decode cX11_act_ 73 = .ok (.lload_n 3, 1) := by decide +kernel
theorem dX11_act__74 : decode cX11_act_ 74 = .ok (.ldc2_w 97, 3) := by decide +kernel
theorem dX11_act__77 : decode cX11_act_ 77 = .ok (.lcmp, 1) := by decide +kernel
theorem dX11_act__78 : decode cX11_act_ 78 = .ok (.ifCond .gt 7, 3) := by decide +kernel
theorem dX11_act__81 : decode cX11_act_ 81 = .ok (.iconst 1, 1) := by decide +kernel
theorem dX11_act__82 : decode cX11_act_ 82 = .ok (.goto 37, 3) := by decide +kernel
theorem dX11_act__85 : decode cX11_act_ 85 = .ok (.iconst 0, 1) := by decide +kernel
theorem dX11_act__86 : decode cX11_act_ 86 = .ok (.goto 33, 3) := by decide +kernel
theorem dX11_act__89 : decode cX11_act_ 89 = .ok (.lload_n 3, 1) := by decide +kernel
theorem dX11_act__90 : decode cX11_act_ 90 = .ok (.invokestatic 110, 3) := by decide +kernel
theorem dX11_act__93 : decode cX11_act_ 93 = .ok (.ifCond .eq 25, 3) := by decide +kernel
theorem dX11_act__96 : decode cX11_act_ 96 = .ok (.lload 5, 2) := by decide +kernel
theorem dX11_act__98 : decode cX11_act_ 98 = .ok (.ldc2_w 157, 3) := by decide +kernel
theorem dX11_act__101 : decode cX11_act_ 101 = .ok (.lcmp, 1) := by decide +kernel
theorem dX11_act__102 : decode cX11_act_ 102 = .ok (.ifCond .lt 16, 3) := by decide +kernel
theorem dX11_act__105 : decode cX11_act_ 105 = .ok (.lload 5, 2) := by decide +kernel
theorem dX11_act__107 : decode cX11_act_ 107 = .ok (.ldc2_w 159, 3) := by decide +kernel
theorem dX11_act__110 : decode cX11_act_ 110 = .ok (.lcmp, 1) := by decide +kernel
theorem dX11_act__111 : decode cX11_act_ 111 = .ok (.ifCond .gt 7, 3) := by decide +kernel
theorem dX11_act__114 : decode cX11_act_ 114 = .ok (.iconst 1, 1) := by decide +kernel
theorem dX11_act__115 : decode cX11_act_ 115 = .ok (.goto 4, 3) := by decide +kernel
theorem dX11_act__118 : decode cX11_act_ 118 = .ok (.iconst 0, 1) := by decide +kernel
theorem dX11_act__119 : decode cX11_act_ 119 = .ok (.istore 7, 2) := by decide +kernel
theorem dX11_act__121 : decode cX11_act_ 121 = .ok (.iload 7, 2) := by decide +kernel
theorem dX11_act__123 : decode cX11_act_ 123 = .ok (.ifCond .ne 10, 3) := by decide +kernel
theorem dX11_act__126 : decode cX11_act_ 126 = .ok (.aload_n 0, 1) := by decide +kernel
theorem dX11_act__127 : decode cX11_act_ 127 = .ok (.bipush (-4), 2) := by decide +kernel
theorem dX11_act__129 : decode cX11_act_ 129 = .ok (.invokevirtual 89, 3) := by decide +kernel
theorem dX11_act__132 : decode cX11_act_ 132 = .ok (.ireturn, 1) := by decide +kernel
theorem dX11_act__133 : decode cX11_act_ 133 = .ok (.aload_n 0, 1) := by decide +kernel
theorem dX11_act__134 : decode cX11_act_ 134 = .ok (.getfield 32, 3) := by decide +kernel
theorem dX11_act__137 : decode cX11_act_ 137 = .ok (.iload_n 1, 1) := by decide +kernel
theorem dX11_act__138 : decode cX11_act_ 138 = .ok (.iaload, 1) := by decide +kernel
theorem dX11_act__139 : decode cX11_act_ 139 = .ok (.bipush 50, 2) := by decide +kernel
theorem dX11_act__141 : decode cX11_act_ 141 = .ok (.if_icmp .ne 9, 3) := by decide +kernel
theorem dX11_act__144 : decode cX11_act_ 144 = .ok (.aload_n 0, 1) := by decide +kernel
theorem dX11_act__145 : decode cX11_act_ 145 = .ok (.iconst (-1), 1) := by decide +kernel
theorem dX11_act__146 : decode cX11_act_ 146 = .ok (.invokevirtual 89, 3) := by decide +kernel
theorem dX11_act__149 : decode cX11_act_ 149 = .ok (.ireturn, 1) := by decide +kernel
theorem dX11_act__150 : decode cX11_act_ 150 = .ok (.sipush 950, 3) := by decide +kernel
theorem dX11_act__153 : decode cX11_act_ 153 = .ok (.bipush 50, 2) := by decide +kernel
theorem dX11_act__155 : decode cX11_act_ 155 = .ok (.iload_n 1, 1) := by decide +kernel
theorem dX11_act__156 : decode cX11_act_ 156 = .ok (.imul, 1) := by decide +kernel
theorem dX11_act__157 : decode cX11_act_ 157 = .ok (.iadd, 1) := by decide +kernel
theorem dX11_act__158 : decode cX11_act_ 158 = .ok (.aload_n 0, 1) := by decide +kernel
theorem dX11_act__159 : decode cX11_act_ 159 = .ok (.getfield 32, 3) := by decide +kernel
theorem dX11_act__162 : decode cX11_act_ 162 = .ok (.iload_n 1, 1) := by decide +kernel
theorem dX11_act__163 : decode cX11_act_ 163 = .ok (.iaload, 1) := by decide +kernel
theorem dX11_act__164 : decode cX11_act_ 164 = .ok (.iadd, 1) := by decide +kernel
theorem dX11_act__165 : decode cX11_act_ 165 = .ok (.istore 8, 2) := by decide +kernel
theorem dX11_act__167 : decode cX11_act_ 167 = .ok (.aload_n 0, 1) := by decide +kernel
theorem dX11_act__168 : decode cX11_act_ 168 = .ok (.getfield 35, 3) := by decide +kernel
theorem dX11_act__171 : decode cX11_act_ 171 = .ok (.iload 8, 2) := by decide +kernel
theorem dX11_act__173 : decode cX11_act_ 173 = .ok (.iload_n 2, 1) := by decide +kernel
theorem dX11_act__174 : decode cX11_act_ 174 = .ok (.iastore, 1) := by decide +kernel
theorem dX11_act__175 : decode cX11_act_ 175 = .ok (.aload_n 0, 1) := by decide +kernel
theorem dX11_act__176 : decode cX11_act_ 176 = .ok (.getfield 38, 3) := by decide +kernel
theorem dX11_act__179 : decode cX11_act_ 179 = .ok (.iload 8, 2) := by decide +kernel
theorem dX11_act__181 : decode cX11_act_ 181 = .ok (.lload_n 3, 1) := by decide +kernel
theorem dX11_act__182 : decode cX11_act_ 182 = .ok (.lastore, 1) := by decide +kernel
theorem dX11_act__183 : decode cX11_act_ 183 = .ok (.aload_n 0, 1) := by decide +kernel
theorem dX11_act__184 : decode cX11_act_ 184 = .ok (.getfield 41, 3) := by decide +kernel
theorem dX11_act__187 : decode cX11_act_ 187 = .ok (.iload 8, 2) := by decide +kernel
theorem dX11_act__189 : decode cX11_act_ 189 = .ok (.lload 5, 2) := by decide +kernel
theorem dX11_act__191 : decode cX11_act_ 191 = .ok (.lastore, 1) := by decide +kernel
theorem dX11_act__192 : decode cX11_act_ 192 = .ok (.aload_n 0, 1) := by decide +kernel
theorem dX11_act__193 : decode cX11_act_ 193 = .ok (.getfield 32, 3) := by decide +kernel
theorem dX11_act__196 : decode cX11_act_ 196 = .ok (.iload_n 1, 1) := by decide +kernel
theorem dX11_act__197 : decode cX11_act_ 197 = .ok (.dup2, 1) := by decide +kernel
theorem dX11_act__198 : decode cX11_act_ 198 = .ok (.iaload, 1) := by decide +kernel
theorem dX11_act__199 : decode cX11_act_ 199 = .ok (.iconst 1, 1) := by decide +kernel
theorem dX11_act__200 : decode cX11_act_ 200 = .ok (.iadd, 1) := by decide +kernel
theorem dX11_act__201 : decode cX11_act_ 201 = .ok (.iastore, 1) := by decide +kernel
theorem dX11_act__202 : decode cX11_act_ 202 = .ok (.aload_n 0, 1) := by decide +kernel
theorem dX11_act__203 : decode cX11_act_ 203 = .ok (.getfield 32, 3) := by decide +kernel
theorem dX11_act__206 : decode cX11_act_ 206 = .ok (.iload_n 1, 1) := by decide +kernel
theorem dX11_act__207 : decode cX11_act_ 207 = .ok (.iaload, 1) := by decide +kernel
theorem dX11_act__208 : decode cX11_act_ 208 = .ok (.ireturn, 1) := by decide +kernel
set_option maxRecDepth 20000 in
theorem ggX11_commit_X11_refuse : GoodIn wsX11_commit wsX11_refuse := goodIn_r _ [8, 9, 43, 44, 45, 46, 47, 48, 49, 50, 51, 52, 53, 54, 55, 56, 57, 58, 59, 60, 61, 62, 63, 64, 65, 66, 67, 68, 69, 70, 71, 72, 73] (by decide +kernel) (by decide +kernel)
set_option maxRecDepth 20000 in
theorem gX11_commit_X11_refuse : GoodIn wsX11_commit (wsV RX11 89 RX11 yX11_refuse wsX11_refuse) := goodIn_app (goodIn_of _ (by decide +kernel)) ggX11_commit_X11_refuse
set_option maxRecDepth 20000 in
theorem ggX11_commit_X11_settle : GoodIn wsX11_commit wsX11_settle := goodIn_r _ [13, 3, 14, 15, 16, 2, 17, 18, 19, 7, 20, 21, 22, 23, 24, 25, 26, 27, 28, 29, 30, 31, 32, 33, 34, 35, 36, 37, 38, 39, 40, 41, 42, 43, 44, 45, 46, 47, 48, 49, 50, 51, 52, 53, 54, 55, 56, 57, 58, 59, 60, 61, 62, 63, 64, 65, 66, 67, 68, 69, 70, 71, 72, 73] (by decide +kernel) (by decide +kernel)
set_option maxRecDepth 20000 in
theorem gX11_commit_X11_settle : GoodIn wsX11_commit (wsV RX11 151 RX11 yX11_settle wsX11_settle) := goodIn_app (goodIn_of _ (by decide +kernel)) ggX11_commit_X11_settle
theorem dX11_commit_0 : decode cX11_commit 0 = .ok (.aload_n 0, 1) := by decide +kernel
theorem dX11_commit_1 : decode cX11_commit 1 = .ok (.iconst 0, 1) := by decide +kernel
theorem dX11_commit_2 : decode cX11_commit 2 = .ok (.putfield 75, 3) := by decide +kernel
theorem dX11_commit_5 : decode cX11_commit 5 = .ok (.iload_n 1, 1) := by decide +kernel
theorem dX11_commit_6 : decode cX11_commit 6 = .ok (.iconst 1, 1) := by decide +kernel
theorem dX11_commit_7 : decode cX11_commit 7 = .ok (.if_icmp .lt 9, 3) := by decide +kernel
theorem dX11_commit_10 : decode cX11_commit 10 = .ok (.iload_n 1, 1) := by decide +kernel
theorem dX11_commit_11 : decode cX11_commit 11 = .ok (.bipush 8, 2) := by decide +kernel
theorem dX11_commit_13 : decode cX11_commit 13 = .ok (.if_icmp .le 10, 3) := by decide +kernel
theorem dX11_commit_16 : decode cX11_commit 16 = .ok (.aload_n 0, 1) := by decide +kernel
theorem dX11_commit_17 : decode cX11_commit 17 = .ok (.bipush (-2), 2) := by decide +kernel
theorem dX11_commit_19 : decode cX11_commit 19 = .ok (.invokevirtual 89, 3) := by decide +kernel
theorem dX11_commit_22 : decode cX11_commit 22 = .ok (.ireturn, 1) := by decide +kernel
theorem dX11_commit_23 : decode cX11_commit 23 = .ok (.aload_n 0, 1) := by decide +kernel
theorem dX11_commit_24 : decode cX11_commit 24 = .ok (.getfield 148, 3) := by decide +kernel
theorem dX11_commit_27 : decode cX11_commit 27 = .ok (.aload_n 0, 1) := by decide +kernel
theorem dX11_commit_28 : decode cX11_commit 28 = .ok (.getfield 32, 3) := by decide +kernel
theorem dX11_commit_31 : decode cX11_commit 31 = .ok (.iload_n 1, 1) := by decide +kernel
theorem dX11_commit_32 : decode cX11_commit 32 = .ok (.iaload, 1) := by decide +kernel
theorem dX11_commit_33 : decode cX11_commit 33 = .ok (.iadd, 1) := by decide +kernel
theorem dX11_commit_34 : decode cX11_commit 34 = .ok (.sipush 1000, 3) := by decide +kernel
theorem dX11_commit_37 : decode cX11_commit 37 = .ok (.if_icmp .le 9, 3) := by decide +kernel
theorem dX11_commit_40 : decode cX11_commit 40 = .ok (.aload_n 0, 1) := by decide +kernel
theorem dX11_commit_41 : decode cX11_commit 41 = .ok (.iconst (-1), 1) := by decide +kernel
theorem dX11_commit_42 : decode cX11_commit 42 = .ok (.invokevirtual 89, 3) := by decide +kernel
theorem dX11_commit_45 : decode cX11_commit 45 = .ok (.ireturn, 1) := by decide +kernel
theorem dX11_commit_46 : decode cX11_commit 46 = .ok (.aload_n 0, 1) := by decide +kernel
theorem dX11_commit_47 : decode cX11_commit 47 = .ok (.getfield 32, 3) := by decide +kernel
theorem dX11_commit_50 : decode cX11_commit 50 = .ok (.iload_n 1, 1) := by decide +kernel
theorem dX11_commit_51 : decode cX11_commit 51 = .ok (.iaload, 1) := by decide +kernel
theorem dX11_commit_52 : decode cX11_commit 52 = .ok (.istore_n 2, 1) := by decide +kernel
theorem dX11_commit_53 : decode cX11_commit 53 = .ok (.aload_n 0, 1) := by decide +kernel
theorem dX11_commit_54 : decode cX11_commit 54 = .ok (.iload_n 1, 1) := by decide +kernel
theorem dX11_commit_55 : decode cX11_commit 55 = .ok (.sipush 950, 3) := by decide +kernel
theorem dX11_commit_58 : decode cX11_commit 58 = .ok (.bipush 50, 2) := by decide +kernel
theorem dX11_commit_60 : decode cX11_commit 60 = .ok (.iload_n 1, 1) := by decide +kernel
theorem dX11_commit_61 : decode cX11_commit 61 = .ok (.imul, 1) := by decide +kernel
theorem dX11_commit_62 : decode cX11_commit 62 = .ok (.iadd, 1) := by decide +kernel
theorem dX11_commit_63 : decode cX11_commit 63 = .ok (.invokevirtual 151, 3) := by decide +kernel
theorem dX11_commit_66 : decode cX11_commit 66 = .ok (.aload_n 0, 1) := by decide +kernel
theorem dX11_commit_67 : decode cX11_commit 67 = .ok (.getfield 32, 3) := by decide +kernel
theorem dX11_commit_70 : decode cX11_commit 70 = .ok (.iload_n 1, 1) := by decide +kernel
theorem dX11_commit_71 : decode cX11_commit 71 = .ok (.iconst 0, 1) := by decide +kernel
theorem dX11_commit_72 : decode cX11_commit 72 = .ok (.iastore, 1) := by decide +kernel
theorem dX11_commit_73 : decode cX11_commit 73 = .ok (.iload_n 2, 1) := by decide +kernel
theorem dX11_commit_74 : decode cX11_commit 74 = .ok (.ireturn, 1) := by decide +kernel
set_option maxRecDepth 20000 in
theorem ggX11_settle_X11_record : GoodIn wsX11_settle wsX11_record := goodIn_r _ [10, 11, 12, 13, 33, 34, 35, 36, 37, 38, 39, 40, 41, 42, 43, 44, 45, 46, 47, 48, 49, 50, 51, 52, 53, 54, 55, 56, 57, 58, 59, 60, 61, 62, 63] (by decide +kernel) (by decide +kernel)
set_option maxRecDepth 20000 in
theorem gX11_settle_X11_record : GoodIn wsX11_settle (wsV RX11 161 RX11 yX11_record wsX11_record) := goodIn_app (goodIn_of _ (by decide +kernel)) ggX11_settle_X11_record
set_option maxRecDepth 20000 in
theorem ggX11_settle_X11_insert : GoodIn wsX11_settle wsX11_insert := goodIn_r _ [17, 18, 19, 20, 21, 22, 33, 34, 35, 36, 37, 38, 39, 40, 41, 42, 43, 44, 45, 46, 47, 48, 49, 50, 51, 52, 53, 54, 55, 56, 57, 58, 59, 60, 61, 62, 63] (by decide +kernel) (by decide +kernel)
set_option maxRecDepth 20000 in
theorem gX11_settle_X11_insert : GoodIn wsX11_settle (wsV RX11 165 RX11 yX11_insert wsX11_insert) := goodIn_app (goodIn_of _ (by decide +kernel)) ggX11_settle_X11_insert
set_option maxRecDepth 20000 in
theorem ggX11_settle_X11_delete : GoodIn wsX11_settle wsX11_delete := goodIn_r _ [26, 19, 20, 18, 21, 33, 34, 35, 36, 37, 38, 39, 40, 41, 42, 43, 44, 45, 46, 47, 48, 49, 50, 51, 52, 53, 54, 55, 56, 57, 58, 59, 60, 61, 62, 63] (by decide +kernel) (by decide +kernel)
set_option maxRecDepth 20000 in
theorem gX11_settle_X11_delete : GoodIn wsX11_settle (wsV RX11 169 RX11 yX11_delete wsX11_delete) := goodIn_app (goodIn_of _ (by decide +kernel)) ggX11_settle_X11_delete
set_option maxRecDepth 20000 in
theorem ggX11_settle_X11_sign : GoodIn wsX11_settle wsX11_sign := goodIn_r _ [30, 31, 32, 33, 34, 35, 36, 37, 38, 39, 40, 41, 42, 43, 44, 45, 46, 47, 48, 49, 50, 51, 52, 53, 54, 55, 56, 57, 58, 59, 60, 61, 62, 63] (by decide +kernel) (by decide +kernel)
set_option maxRecDepth 20000 in
theorem gX11_settle_X11_sign : GoodIn wsX11_settle (wsV RX11 172 RX11 yX11_sign wsX11_sign) := goodIn_app (goodIn_of _ (by decide +kernel)) ggX11_settle_X11_sign
theorem dX11_settle_0 : decode cX11_settle 0 = .ok (.iload_n 2, 1) := by decide +kernel
theorem dX11_settle_1 : decode cX11_settle 1 = .ok (.istore_n 3, 1) := by decide +kernel
theorem dX11_settle_2 : decode cX11_settle 2 = .ok (.iload_n 3, 1) := by decide +kernel
theorem dX11_settle_3 : decode cX11_settle 3 = .ok (.iload_n 2, 1) := by decide +kernel
theorem dX11_settle_4 : decode cX11_settle 4 = .ok (.aload_n 0, 1) := by decide +kernel
theorem dX11_settle_5 : decode cX11_settle 5 = .ok (.getfield 32, 3) := by decide +kernel
theorem dX11_settle_8 : decode cX11_settle 8 = .ok (.iload_n 1, 1) := by decide +kernel
theorem dX11_settle_9 : decode cX11_settle 9 = .ok (.iaload, 1) := by decide +kernel
theorem dX11_settle_10 : decode cX11_settle 10 = .ok (.iadd, 1) := by decide +kernel
theorem dX11_settle_11 : decode cX11_settle 11 = .ok (.if_icmp .ge 123, 3) := by decide +kernel
theorem dX11_settle_14 : decode cX11_settle 14 = .ok (.aload_n 0, 1) := by decide +kernel
theorem dX11_settle_15 : decode cX11_settle 15 = .ok (.getfield 35, 3) := by decide +kernel
theorem dX11_settle_18 : decode cX11_settle 18 = .ok (.iload_n 3, 1) := by decide +kernel
theorem dX11_settle_19 : decode cX11_settle 19 = .ok (.iaload, 1) := by decide +kernel
theorem dX11_settle_20 : decode cX11_settle 20 = .ok (.istore 4, 2) := by decide +kernel
theorem dX11_settle_22 : decode cX11_settle 22 = .ok (.aload_n 0, 1) := by decide +kernel
theorem dX11_settle_23 : decode cX11_settle 23 = .ok (.getfield 38, 3) := by decide +kernel
theorem dX11_settle_26 : decode cX11_settle 26 = .ok (.iload_n 3, 1) := by decide +kernel
theorem dX11_settle_27 : decode cX11_settle 27 = .ok (.laload, 1) := by decide +kernel
theorem dX11_settle_28 : decode cX11_settle 28 = .ok (.l2i, 1) := by decide +kernel
theorem dX11_settle_29 : decode cX11_settle 29 = .ok (.istore 5, 2) := by decide +kernel
theorem dX11_settle_31 : decode cX11_settle 31 = .ok (.iload 4, 2) := by decide +kernel
theorem dX11_settle_33 : decode cX11_settle 33 = .ok (.iconst 2, 1) := by decide +kernel
theorem dX11_settle_34 : decode cX11_settle 34 = .ok (.if_icmp .ge 29, 3) := by decide +kernel
theorem dX11_settle_37 : decode cX11_settle 37 = .ok (.aload_n 0, 1) := by decide +kernel
theorem dX11_settle_38 : decode cX11_settle 38 = .ok (.iload 4, 2) := by decide +kernel
theorem dX11_settle_40 : decode cX11_settle 40 = .ok (.ifCond .ne 7, 3) := by decide +kernel
theorem dX11_settle_43 : decode cX11_settle 43 = .ok (.iconst 1, 1) := by decide +kernel
theorem dX11_settle_44 : decode cX11_settle 44 = .ok (.goto 4, 3) := by decide +kernel
theorem dX11_settle_47 : decode cX11_settle 47 = .ok (.iconst 0, 1) := by decide +kernel
theorem dX11_settle_48 : decode cX11_settle 48 = .ok (.iload 5, 2) := by decide +kernel
theorem dX11_settle_50 : decode cX11_settle 50 = .ok (.i2l, 1) := by decide +kernel
theorem dX11_settle_51 : decode cX11_settle 51 = .ok (.aload_n 0, 1) := by decide +kernel
theorem dX11_settle_52 : decode cX11_settle 52 = .ok (.getfield 41, 3) := by decide +kernel
theorem dX11_settle_55 : decode cX11_settle 55 = .ok (.iload_n 3, 1) := by decide +kernel
theorem dX11_settle_56 : decode cX11_settle 56 = .ok (.laload, 1) := by decide +kernel
theorem dX11_settle_57 : decode cX11_settle 57 = .ok (.invokevirtual 161, 3) := by decide +kernel
theorem dX11_settle_60 : decode cX11_settle 60 = .ok (.goto 68, 3) := by decide +kernel
theorem dX11_settle_63 : decode cX11_settle 63 = .ok (.iload 4, 2) := by decide +kernel
theorem dX11_settle_65 : decode cX11_settle 65 = .ok (.iconst 2, 1) := by decide +kernel
theorem dX11_settle_66 : decode cX11_settle 66 = .ok (.if_icmp .ne 18, 3) := by decide +kernel
theorem dX11_settle_69 : decode cX11_settle 69 = .ok (.aload_n 0, 1) := by decide +kernel
theorem dX11_settle_70 : decode cX11_settle 70 = .ok (.iload 5, 2) := by decide +kernel
theorem dX11_settle_72 : decode cX11_settle 72 = .ok (.aload_n 0, 1) := by decide +kernel
theorem dX11_settle_73 : decode cX11_settle 73 = .ok (.getfield 41, 3) := by decide +kernel
theorem dX11_settle_76 : decode cX11_settle 76 = .ok (.iload_n 3, 1) := by decide +kernel
theorem dX11_settle_77 : decode cX11_settle 77 = .ok (.laload, 1) := by decide +kernel
theorem dX11_settle_78 : decode cX11_settle 78 = .ok (.invokevirtual 165, 3) := by decide +kernel
theorem dX11_settle_81 : decode cX11_settle 81 = .ok (.goto 47, 3) := by decide +kernel
theorem dX11_settle_84 : decode cX11_settle 84 = .ok (.iload 4, 2) := by decide +kernel
theorem dX11_settle_86 : decode cX11_settle 86 = .ok (.iconst 3, 1) := by decide +kernel
theorem dX11_settle_87 : decode cX11_settle 87 = .ok (.if_icmp .ne 12, 3) := by decide +kernel
theorem dX11_settle_90 : decode cX11_settle 90 = .ok (.aload_n 0, 1) := by decide +kernel
theorem dX11_settle_91 : decode cX11_settle 91 = .ok (.iload 5, 2) := by decide +kernel
theorem dX11_settle_93 : decode cX11_settle 93 = .ok (.invokevirtual 169, 3) := by decide +kernel
theorem dX11_settle_96 : decode cX11_settle 96 = .ok (.goto 32, 3) := by decide +kernel
theorem dX11_settle_99 : decode cX11_settle 99 = .ok (.aload_n 0, 1) := by decide +kernel
theorem dX11_settle_100 : decode cX11_settle 100 = .ok (.bipush 80, 2) := by decide +kernel
theorem dX11_settle_102 : decode cX11_settle 102 = .ok (.iload 5, 2) := by decide +kernel
theorem dX11_settle_104 : decode cX11_settle 104 = .ok (.bipush 100, 2) := by decide +kernel
theorem dX11_settle_106 : decode cX11_settle 106 = .ok (.idiv, 1) := by decide +kernel
theorem dX11_settle_107 : decode cX11_settle 107 = .ok (.iconst 1, 1) := by decide +kernel
theorem dX11_settle_108 : decode cX11_settle 108 = .ok (.isub, 1) := by decide +kernel
theorem dX11_settle_109 : decode cX11_settle 109 = .ok (.imul, 1) := by decide +kernel
theorem dX11_settle_110 : decode cX11_settle 110 = .ok (.iload 5, 2) := by decide +kernel
theorem dX11_settle_112 : decode cX11_settle 112 = .ok (.bipush 100, 2) := by decide +kernel
theorem dX11_settle_114 : decode cX11_settle 114 = .ok (.irem, 1) := by decide +kernel
theorem dX11_settle_115 : decode cX11_settle 115 = .ok (.iadd, 1) := by decide +kernel
theorem dX11_settle_116 : decode cX11_settle 116 = .ok (.iconst 1, 1) := by decide +kernel
theorem dX11_settle_117 : decode cX11_settle 117 = .ok (.isub, 1) := by decide +kernel
theorem dX11_settle_118 : decode cX11_settle 118 = .ok (.aload_n 0, 1) := by decide +kernel
theorem dX11_settle_119 : decode cX11_settle 119 = .ok (.getfield 41, 3) := by decide +kernel
theorem dX11_settle_122 : decode cX11_settle 122 = .ok (.iload_n 3, 1) := by decide +kernel
theorem dX11_settle_123 : decode cX11_settle 123 = .ok (.laload, 1) := by decide +kernel
theorem dX11_settle_124 : decode cX11_settle 124 = .ok (.l2i, 1) := by decide +kernel
theorem dX11_settle_125 : decode cX11_settle 125 = .ok (.invokevirtual 172, 3) := by decide +kernel
theorem dX11_settle_128 : decode cX11_settle 128 = .ok (.iinc 3 1, 3) := by decide +kernel
theorem dX11_settle_131 : decode cX11_settle 131 = .ok (.goto (-129), 3) := by decide +kernel
theorem dX11_settle_134 : decode cX11_settle 134 = .ok (.aload_n 0, 1) := by decide +kernel
theorem dX11_settle_135 : decode cX11_settle 135 = .ok (.dup, 1) := by decide +kernel
theorem dX11_settle_136 : decode cX11_settle 136 = .ok (.getfield 148, 3) := by decide +kernel
theorem dX11_settle_139 : decode cX11_settle 139 = .ok (.aload_n 0, 1) := by decide +kernel
theorem dX11_settle_140 : decode cX11_settle 140 = .ok (.getfield 32, 3) := by decide +kernel
theorem dX11_settle_143 : decode cX11_settle 143 = .ok (.iload_n 1, 1) := by decide +kernel
theorem dX11_settle_144 : decode cX11_settle 144 = .ok (.iaload, 1) := by decide +kernel
theorem dX11_settle_145 : decode cX11_settle 145 = .ok (.iadd, 1) := by decide +kernel
theorem dX11_settle_146 : decode cX11_settle 146 = .ok (.putfield 148, 3) := by decide +kernel
theorem dX11_settle_149 : decode cX11_settle 149 = .ok (.return_, 1) := by decide +kernel
theorem dX11_sign_0 : decode cX11_sign 0 = .ok (.aload_n 0, 1) := by decide +kernel
theorem dX11_sign_1 : decode cX11_sign 1 = .ok (.dup, 1) := by decide +kernel
theorem dX11_sign_2 : decode cX11_sign 2 = .ok (.getfield 175, 3) := by decide +kernel
theorem dX11_sign_5 : decode cX11_sign 5 = .ok (.aload_n 0, 1) := by decide +kernel
theorem dX11_sign_6 : decode cX11_sign 6 = .ok (.getfield 66, 3) := by decide +kernel
theorem dX11_sign_9 : decode cX11_sign 9 = .ok (.iload_n 1, 1) := by decide +kernel
theorem dX11_sign_10 : decode cX11_sign 10 = .ok (.iaload, 1) := by decide +kernel
theorem dX11_sign_11 : decode cX11_sign 11 = .ok (.ifCond .ne 7, 3) := by decide +kernel
theorem dX11_sign_14 : decode cX11_sign 14 = .ok (.iconst 1, 1) := by decide +kernel
theorem dX11_sign_15 : decode cX11_sign 15 = .ok (.goto 4, 3) := by decide +kernel
theorem dX11_sign_18 : decode cX11_sign 18 = .ok (.iconst 0, 1) := by decide +kernel
theorem dX11_sign_19 : decode cX11_sign 19 = .ok (.iadd, 1) := by decide +kernel
theorem dX11_sign_20 : decode cX11_sign 20 = .ok (.putfield 175, 3) := by decide +kernel
theorem dX11_sign_23 : decode cX11_sign 23 = .ok (.aload_n 0, 1) := by decide +kernel
theorem dX11_sign_24 : decode cX11_sign 24 = .ok (.getfield 66, 3) := by decide +kernel
theorem dX11_sign_27 : decode cX11_sign 27 = .ok (.iload_n 1, 1) := by decide +kernel
theorem dX11_sign_28 : decode cX11_sign 28 = .ok (.iload_n 2, 1) := by decide +kernel
theorem dX11_sign_29 : decode cX11_sign 29 = .ok (.iastore, 1) := by decide +kernel
theorem dX11_sign_30 : decode cX11_sign 30 = .ok (.return_, 1) := by decide +kernel
theorem dX11_record_0 : decode cX11_record 0 = .ok (.iconst 0, 1) := by decide +kernel
theorem dX11_record_1 : decode cX11_record 1 = .ok (.istore 6, 2) := by decide +kernel
theorem dX11_record_3 : decode cX11_record 3 = .ok (.iload 6, 2) := by decide +kernel
theorem dX11_record_5 : decode cX11_record 5 = .ok (.aload_n 0, 1) := by decide +kernel
theorem dX11_record_6 : decode cX11_record 6 = .ok (.getfield 178, 3) := by decide +kernel
theorem dX11_record_9 : decode cX11_record 9 = .ok (.if_icmp .ge 21, 3) := by decide +kernel
theorem dX11_record_12 : decode cX11_record 12 = .ok (.aload_n 0, 1) := by decide +kernel
theorem dX11_record_13 : decode cX11_record 13 = .ok (.getfield 44, 3) := by decide +kernel
theorem dX11_record_16 : decode cX11_record 16 = .ok (.iload 6, 2) := by decide +kernel
theorem dX11_record_18 : decode cX11_record 18 = .ok (.laload, 1) := by decide +kernel
theorem dX11_record_19 : decode cX11_record 19 = .ok (.lload_n 2, 1) := by decide +kernel
theorem dX11_record_20 : decode cX11_record 20 = .ok (.lcmp, 1) := by decide +kernel
theorem dX11_record_21 : decode cX11_record 21 = .ok (.ifCond .ge 9, 3) := by decide +kernel
theorem dX11_record_24 : decode cX11_record 24 = .ok (.iinc 6 1, 3) := by decide +kernel
theorem dX11_record_27 : decode cX11_record 27 = .ok (.goto (-24), 3) := by decide +kernel
theorem dX11_record_30 : decode cX11_record 30 = .ok (.iload 6, 2) := by decide +kernel
theorem dX11_record_32 : decode cX11_record 32 = .ok (.aload_n 0, 1) := by decide +kernel
theorem dX11_record_33 : decode cX11_record 33 = .ok (.getfield 178, 3) := by decide +kernel
theorem dX11_record_36 : decode cX11_record 36 = .ok (.if_icmp .ge 19, 3) := by decide +kernel
theorem dX11_record_39 : decode cX11_record 39 = .ok (.aload_n 0, 1) := by decide +kernel
theorem dX11_record_40 : decode cX11_record 40 = .ok (.getfield 44, 3) := by decide +kernel
theorem dX11_record_43 : decode cX11_record 43 = .ok (.iload 6, 2) := by decide +kernel
theorem dX11_record_45 : decode cX11_record 45 = .ok (.laload, 1) := by decide +kernel
theorem dX11_record_46 : decode cX11_record 46 = .ok (.lload_n 2, 1) := by decide +kernel
theorem dX11_record_47 : decode cX11_record 47 = .ok (.lcmp, 1) := by decide +kernel
theorem dX11_record_48 : decode cX11_record 48 = .ok (.ifCond .ne 7, 3) := by decide +kernel
theorem dX11_record_51 : decode cX11_record 51 = .ok (.iconst 1, 1) := by decide +kernel
theorem dX11_record_52 : decode cX11_record 52 = .ok (.goto 4, 3) := by decide +kernel
theorem dX11_record_55 : decode cX11_record 55 = .ok (.iconst 0, 1) := by decide +kernel
theorem dX11_record_56 : decode cX11_record 56 = .ok (.istore 7, 2) := by decide +kernel
theorem dX11_record_58 : decode cX11_record 58 = .ok (.iload_n 1, 1) := by decide +kernel
theorem dX11_record_59 : decode cX11_record 59 = .ok (.ifCond .eq 69, 3) := by decide +kernel
theorem dX11_record_62 : decode cX11_record 62 = .ok (.iload 7, 2) := by decide +kernel
theorem dX11_record_64 : decode cX11_record 64 = .ok (.ifCond .ne 64, 3) := by decide +kernel
theorem dX11_record_67 : decode cX11_record 67 = .ok (.aload_n 0, 1) := by decide +kernel
theorem dX11_record_68 : decode cX11_record 68 = .ok (.getfield 178, 3) := by decide +kernel
theorem dX11_record_71 : decode cX11_record 71 = .ok (.istore 8, 2) := by decide +kernel
theorem dX11_record_73 : decode cX11_record 73 = .ok (.iload 8, 2) := by decide +kernel
theorem dX11_record_75 : decode cX11_record 75 = .ok (.iload 6, 2) := by decide +kernel
theorem dX11_record_77 : decode cX11_record 77 = .ok (.if_icmp .le 41, 3) := by decide +kernel
theorem dX11_record_80 : decode cX11_record 80 = .ok (.aload_n 0, 1) := by decide +kernel
theorem dX11_record_81 : decode cX11_record 81 = .ok (.getfield 44, 3) := by decide +kernel
theorem dX11_record_84 : decode cX11_record 84 = .ok (.iload 8, 2) := by decide +kernel
theorem dX11_record_86 : decode cX11_record 86 = .ok (.aload_n 0, 1) := by decide +kernel
theorem dX11_record_87 : decode cX11_record 87 = .ok (.getfield 44, 3) := by decide +kernel
theorem dX11_record_90 : decode cX11_record 90 = .ok (.iload 8, 2) := by decide +kernel
theorem dX11_record_92 : decode cX11_record 92 = .ok (.iconst 1, 1) := by decide +kernel
theorem dX11_record_93 : decode cX11_record 93 = .ok (.isub, 1) := by decide +kernel
theorem dX11_record_94 : decode cX11_record 94 = .ok (.laload, 1) := by decide +kernel
theorem dX11_record_95 : decode cX11_record 95 = .ok (.lastore, 1) := by decide +kernel
theorem dX11_record_96 : decode cX11_record 96 = .ok (.aload_n 0, 1) := by decide +kernel
theorem dX11_record_97 : decode cX11_record 97 = .ok (.getfield 47, 3) := by decide +kernel
theorem dX11_record_100 : decode cX11_record 100 = .ok (.iload 8, 2) := by decide +kernel
theorem dX11_record_102 : decode cX11_record 102 = .ok (.aload_n 0, 1) := by decide +kernel
theorem dX11_record_103 : decode cX11_record 103 = .ok (.getfield 47, 3) := by decide +kernel
theorem dX11_record_106 : decode cX11_record 106 = .ok (.iload 8, 2) := by decide +kernel
theorem dX11_record_108 : decode cX11_record 108 = .ok (.iconst 1, 1) := by decide +kernel
theorem dX11_record_109 : decode cX11_record 109 = .ok (.isub, 1) := by decide +kernel
theorem dX11_record_110 : decode cX11_record 110 = .ok (.laload, 1) := by decide +kernel
theorem dX11_record_111 : decode cX11_record 111 = .ok (.lastore, 1) := by decide +kernel
theorem dX11_record_112 : decode cX11_record 112 = .ok (.iinc 8 (-1), 3) := by decide +kernel
theorem dX11_record_115 : decode cX11_record 115 = .ok (.goto (-42), 3) := by decide +kernel
theorem dX11_record_118 : decode cX11_record 118 = .ok (.aload_n 0, 1) := by decide +kernel
theorem dX11_record_119 : decode cX11_record 119 = .ok (.dup, 1) := by decide +kernel
theorem dX11_record_120 : decode cX11_record 120 = .ok (.getfield 178, 3) := by decide +kernel
theorem dX11_record_123 : decode cX11_record 123 = .ok (.iconst 1, 1) := by decide +kernel
theorem dX11_record_124 : decode cX11_record 124 = .ok (.iadd, 1) := by decide +kernel
theorem dX11_record_125 : decode cX11_record 125 = .ok (.putfield 178, 3) := by decide +kernel
theorem dX11_record_128 : decode cX11_record 128 = .ok (.iload_n 1, 1) := by decide +kernel
theorem dX11_record_129 : decode cX11_record 129 = .ok (.ifCond .eq 23, 3) := by decide +kernel
theorem dX11_record_132 : decode cX11_record 132 = .ok (.aload_n 0, 1) := by decide +kernel
theorem dX11_record_133 : decode cX11_record 133 = .ok (.getfield 44, 3) := by decide +kernel
theorem dX11_record_136 : decode cX11_record 136 = .ok (.iload 6, 2) := by decide +kernel
theorem dX11_record_138 : decode cX11_record 138 = .ok (.lload_n 2, 1) := by decide +kernel
theorem dX11_record_139 : decode cX11_record 139 = .ok (.lastore, 1) := by decide +kernel
theorem dX11_record_140 : decode cX11_record 140 = .ok (.aload_n 0, 1) := by decide +kernel
theorem dX11_record_141 : decode cX11_record 141 = .ok (.getfield 47, 3) := by decide +kernel
theorem dX11_record_144 : decode cX11_record 144 = .ok (.iload 6, 2) := by decide +kernel
theorem dX11_record_146 : decode cX11_record 146 = .ok (.lload 4, 2) := by decide +kernel
theorem dX11_record_148 : decode cX11_record 148 = .ok (.lastore, 1) := by decide +kernel
theorem dX11_record_149 : decode cX11_record 149 = .ok (.goto 69, 3) := by decide +kernel
theorem dX11_record_152 : decode cX11_record 152 = .ok (.iload 7, 2) := by decide +kernel
theorem dX11_record_154 : decode cX11_record 154 = .ok (.ifCond .eq 64, 3) := by decide +kernel
theorem dX11_record_157 : decode cX11_record 157 = .ok (.aload_n 0, 1) := by decide +kernel
theorem dX11_record_158 : decode cX11_record 158 = .ok (.dup, 1) := by decide +kernel
theorem dX11_record_159 : decode cX11_record 159 = .ok (.getfield 178, 3) := by decide +kernel
theorem dX11_record_162 : decode cX11_record 162 = .ok (.iconst 1, 1) := by decide +kernel
theorem dX11_record_163 : decode cX11_record 163 = .ok (.isub, 1) := by decide +kernel
theorem dX11_record_164 : decode cX11_record 164 = .ok (.putfield 178, 3) := by decide +kernel
theorem dX11_record_167 : decode cX11_record 167 = .ok (.iload 6, 2) := by decide +kernel
theorem dX11_record_169 : decode cX11_record 169 = .ok (.istore 8, 2) := by decide +kernel
theorem dX11_record_171 : decode cX11_record 171 = .ok (.iload 8, 2) := by decide +kernel
theorem dX11_record_173 : decode cX11_record 173 = .ok (.aload_n 0, 1) := by decide +kernel
theorem dX11_record_174 : decode cX11_record 174 = .ok (.getfield 178, 3) := by decide +kernel
theorem dX11_record_177 : decode cX11_record 177 = .ok (.if_icmp .ge 41, 3) := by decide +kernel
theorem dX11_record_180 : decode cX11_record 180 = .ok (.aload_n 0, 1) := by decide +kernel
theorem dX11_record_181 : decode cX11_record 181 = .ok (.getfield 44, 3) := by decide +kernel
theorem dX11_record_184 : decode cX11_record 184 = .ok (.iload 8, 2) := by decide +kernel
theorem dX11_record_186 : decode cX11_record 186 = .ok (.aload_n 0, 1) := by decide +kernel
theorem dX11_record_187 : decode cX11_record 187 = .ok (.getfield 44, 3) := by decide +kernel
theorem dX11_record_190 : decode cX11_record 190 = .ok (.iload 8, 2) := by decide +kernel
theorem dX11_record_192 : decode cX11_record 192 = .ok (.iconst 1, 1) := by decide +kernel
theorem dX11_record_193 : decode cX11_record 193 = .ok (.iadd, 1) := by decide +kernel
theorem dX11_record_194 : decode cX11_record 194 = .ok (.laload, 1) := by decide +kernel
theorem dX11_record_195 : decode cX11_record 195 = .ok (.lastore, 1) := by decide +kernel
theorem dX11_record_196 : decode cX11_record 196 = .ok (.aload_n 0, 1) := by decide +kernel
theorem dX11_record_197 : decode cX11_record 197 = .ok (.getfield 47, 3) := by decide +kernel
theorem dX11_record_200 : decode cX11_record 200 = .ok (.iload 8, 2) := by decide +kernel
theorem dX11_record_202 : decode cX11_record 202 = .ok (.aload_n 0, 1) := by decide +kernel
theorem dX11_record_203 : decode cX11_record 203 = .ok (.getfield 47, 3) := by decide +kernel
theorem dX11_record_206 : decode cX11_record 206 = .ok (.iload 8, 2) := by decide +kernel
theorem dX11_record_208 : decode cX11_record 208 = .ok (.iconst 1, 1) := by decide +kernel
theorem dX11_record_209 : decode cX11_record 209 = .ok (.iadd, 1) := by decide +kernel
theorem dX11_record_210 : decode cX11_record 210 = .ok (.laload, 1) := by decide +kernel
theorem dX11_record_211 : decode cX11_record 211 = .ok (.lastore, 1) := by decide +kernel
theorem dX11_record_212 : decode cX11_record 212 = .ok (.iinc 8 1, 3) := by decide +kernel
theorem dX11_record_215 : decode cX11_record 215 = .ok (.goto (-44), 3) := by decide +kernel
theorem dX11_record_218 : decode cX11_record 218 = .ok (.return_, 1) := by decide +kernel
theorem dX11_insert_0 : decode cX11_insert 0 = .ok (.aload_n 0, 1) := by decide +kernel
theorem dX11_insert_1 : decode cX11_insert 1 = .ok (.getfield 181, 3) := by decide +kernel
theorem dX11_insert_4 : decode cX11_insert 4 = .ok (.bipush 100, 2) := by decide +kernel
theorem dX11_insert_6 : decode cX11_insert 6 = .ok (.if_icmp .eq 16, 3) := by decide +kernel
theorem dX11_insert_9 : decode cX11_insert 9 = .ok (.iload_n 1, 1) := by decide +kernel
theorem dX11_insert_10 : decode cX11_insert 10 = .ok (.ifCond .le 13, 3) := by decide +kernel
theorem dX11_insert_13 : decode cX11_insert 13 = .ok (.aload_n 0, 1) := by decide +kernel
theorem dX11_insert_14 : decode cX11_insert 14 = .ok (.getfield 53, 3) := by decide +kernel
theorem dX11_insert_17 : decode cX11_insert 17 = .ok (.iload_n 1, 1) := by decide +kernel
theorem dX11_insert_18 : decode cX11_insert 18 = .ok (.baload, 1) := by decide +kernel
theorem dX11_insert_19 : decode cX11_insert 19 = .ok (.ifCond .ne 4, 3) := by decide +kernel
theorem dX11_insert_22 : decode cX11_insert 22 = .ok (.return_, 1) := by decide +kernel
theorem dX11_insert_23 : decode cX11_insert 23 = .ok (.aload_n 0, 1) := by decide +kernel
theorem dX11_insert_24 : decode cX11_insert 24 = .ok (.dup, 1) := by decide +kernel
theorem dX11_insert_25 : decode cX11_insert 25 = .ok (.getfield 181, 3) := by decide +kernel
theorem dX11_insert_28 : decode cX11_insert 28 = .ok (.iconst 1, 1) := by decide +kernel
theorem dX11_insert_29 : decode cX11_insert 29 = .ok (.iadd, 1) := by decide +kernel
theorem dX11_insert_30 : decode cX11_insert 30 = .ok (.putfield 181, 3) := by decide +kernel
theorem dX11_insert_33 : decode cX11_insert 33 = .ok (.aload_n 0, 1) := by decide +kernel
theorem dX11_insert_34 : decode cX11_insert 34 = .ok (.dup, 1) := by decide +kernel
theorem dX11_insert_35 : decode cX11_insert 35 = .ok (.getfield 184, 3) := by decide +kernel
theorem dX11_insert_38 : decode cX11_insert 38 = .ok (.iconst 1, 1) := by decide +kernel
theorem dX11_insert_39 : decode cX11_insert 39 = .ok (.iadd, 1) := by decide +kernel
theorem dX11_insert_40 : decode cX11_insert 40 = .ok (.putfield 184, 3) := by decide +kernel
theorem dX11_insert_43 : decode cX11_insert 43 = .ok (.aload_n 0, 1) := by decide +kernel
theorem dX11_insert_44 : decode cX11_insert 44 = .ok (.getfield 50, 3) := by decide +kernel
theorem dX11_insert_47 : decode cX11_insert 47 = .ok (.aload_n 0, 1) := by decide +kernel
theorem dX11_insert_48 : decode cX11_insert 48 = .ok (.getfield 181, 3) := by decide +kernel
theorem dX11_insert_51 : decode cX11_insert 51 = .ok (.iload_n 1, 1) := by decide +kernel
theorem dX11_insert_52 : decode cX11_insert 52 = .ok (.iastore, 1) := by decide +kernel
theorem dX11_insert_53 : decode cX11_insert 53 = .ok (.aload_n 0, 1) := by decide +kernel
theorem dX11_insert_54 : decode cX11_insert 54 = .ok (.getfield 53, 3) := by decide +kernel
theorem dX11_insert_57 : decode cX11_insert 57 = .ok (.aload_n 0, 1) := by decide +kernel
theorem dX11_insert_58 : decode cX11_insert 58 = .ok (.getfield 181, 3) := by decide +kernel
theorem dX11_insert_61 : decode cX11_insert 61 = .ok (.iconst 1, 1) := by decide +kernel
theorem dX11_insert_62 : decode cX11_insert 62 = .ok (.bastore, 1) := by decide +kernel
theorem dX11_insert_63 : decode cX11_insert 63 = .ok (.aload_n 0, 1) := by decide +kernel
theorem dX11_insert_64 : decode cX11_insert 64 = .ok (.getfield 57, 3) := by decide +kernel
theorem dX11_insert_67 : decode cX11_insert 67 = .ok (.aload_n 0, 1) := by decide +kernel
theorem dX11_insert_68 : decode cX11_insert 68 = .ok (.getfield 181, 3) := by decide +kernel
theorem dX11_insert_71 : decode cX11_insert 71 = .ok (.lload_n 2, 1) := by decide +kernel
theorem dX11_insert_72 : decode cX11_insert 72 = .ok (.lastore, 1) := by decide +kernel
theorem dX11_insert_73 : decode cX11_insert 73 = .ok (.return_, 1) := by decide +kernel
theorem dX11_delete_0 : decode cX11_delete 0 = .ok (.aload_n 0, 1) := by decide +kernel
theorem dX11_delete_1 : decode cX11_delete 1 = .ok (.getfield 53, 3) := by decide +kernel
theorem dX11_delete_4 : decode cX11_delete 4 = .ok (.iload_n 1, 1) := by decide +kernel
theorem dX11_delete_5 : decode cX11_delete 5 = .ok (.baload, 1) := by decide +kernel
theorem dX11_delete_6 : decode cX11_delete 6 = .ok (.ifCond .ne 4, 3) := by decide +kernel
theorem dX11_delete_9 : decode cX11_delete 9 = .ok (.return_, 1) := by decide +kernel
theorem dX11_delete_10 : decode cX11_delete 10 = .ok (.aload_n 0, 1) := by decide +kernel
theorem dX11_delete_11 : decode cX11_delete 11 = .ok (.getfield 53, 3) := by decide +kernel
theorem dX11_delete_14 : decode cX11_delete 14 = .ok (.iload_n 1, 1) := by decide +kernel
theorem dX11_delete_15 : decode cX11_delete 15 = .ok (.iconst 0, 1) := by decide +kernel
theorem dX11_delete_16 : decode cX11_delete 16 = .ok (.bastore, 1) := by decide +kernel
theorem dX11_delete_17 : decode cX11_delete 17 = .ok (.aload_n 0, 1) := by decide +kernel
theorem dX11_delete_18 : decode cX11_delete 18 = .ok (.dup, 1) := by decide +kernel
theorem dX11_delete_19 : decode cX11_delete 19 = .ok (.getfield 184, 3) := by decide +kernel
theorem dX11_delete_22 : decode cX11_delete 22 = .ok (.iconst 1, 1) := by decide +kernel
theorem dX11_delete_23 : decode cX11_delete 23 = .ok (.isub, 1) := by decide +kernel
theorem dX11_delete_24 : decode cX11_delete 24 = .ok (.putfield 184, 3) := by decide +kernel
theorem dX11_delete_27 : decode cX11_delete 27 = .ok (.iload_n 1, 1) := by decide +kernel
theorem dX11_delete_28 : decode cX11_delete 28 = .ok (.iconst 1, 1) := by decide +kernel
theorem dX11_delete_29 : decode cX11_delete 29 = .ok (.iadd, 1) := by decide +kernel
theorem dX11_delete_30 : decode cX11_delete 30 = .ok (.istore_n 2, 1) := by decide +kernel
theorem dX11_delete_31 : decode cX11_delete 31 = .ok (.iload_n 2, 1) := by decide +kernel
theorem dX11_delete_32 : decode cX11_delete 32 = .ok (.aload_n 0, 1) := by decide +kernel
theorem dX11_delete_33 : decode cX11_delete 33 = .ok (.getfield 181, 3) := by decide +kernel
theorem dX11_delete_36 : decode cX11_delete 36 = .ok (.if_icmp .gt 58, 3) := by decide +kernel
theorem dX11_delete_39 : decode cX11_delete 39 = .ok (.aload_n 0, 1) := by decide +kernel
theorem dX11_delete_40 : decode cX11_delete 40 = .ok (.getfield 53, 3) := by decide +kernel
theorem dX11_delete_43 : decode cX11_delete 43 = .ok (.iload_n 2, 1) := by decide +kernel
theorem dX11_delete_44 : decode cX11_delete 44 = .ok (.baload, 1) := by decide +kernel
theorem dX11_delete_45 : decode cX11_delete 45 = .ok (.ifCond .eq 43, 3) := by decide +kernel
theorem dX11_delete_48 : decode cX11_delete 48 = .ok (.aload_n 0, 1) := by decide +kernel
theorem dX11_delete_49 : decode cX11_delete 49 = .ok (.getfield 50, 3) := by decide +kernel
theorem dX11_delete_52 : decode cX11_delete 52 = .ok (.iload_n 2, 1) := by decide +kernel
theorem dX11_delete_53 : decode cX11_delete 53 = .ok (.iaload, 1) := by decide +kernel
theorem dX11_delete_54 : decode cX11_delete 54 = .ok (.ifCond .le 34, 3) := by decide +kernel
theorem dX11_delete_57 : decode cX11_delete 57 = .ok (.aload_n 0, 1) := by decide +kernel
theorem dX11_delete_58 : decode cX11_delete 58 = .ok (.getfield 53, 3) := by decide +kernel
theorem dX11_delete_61 : decode cX11_delete 61 = .ok (.aload_n 0, 1) := by decide +kernel
theorem dX11_delete_62 : decode cX11_delete 62 = .ok (.getfield 50, 3) := by decide +kernel
theorem dX11_delete_65 : decode cX11_delete 65 = .ok (.iload_n 2, 1) := by decide +kernel
theorem dX11_delete_66 : decode cX11_delete 66 = .ok (.iaload, 1) := by decide +kernel
theorem dX11_delete_67 : decode cX11_delete 67 = .ok (.baload, 1) := by decide +kernel
theorem dX11_delete_68 : decode cX11_delete 68 = .ok (.ifCond .ne 20, 3) := by decide +kernel
theorem dX11_delete_71 : decode cX11_delete 71 = .ok (.aload_n 0, 1) := by decide +kernel
theorem dX11_delete_72 : decode cX11_delete 72 = .ok (.getfield 53, 3) := by decide +kernel
theorem dX11_delete_75 : decode cX11_delete 75 = .ok (.iload_n 2, 1) := by decide +kernel
theorem dX11_delete_76 : decode cX11_delete 76 = .ok (.iconst 0, 1) := by decide +kernel
theorem dX11_delete_77 : decode cX11_delete 77 = .ok (.bastore, 1) := by decide +kernel
theorem dX11_delete_78 : decode cX11_delete 78 = .ok (.aload_n 0, 1) := by decide +kernel
theorem dX11_delete_79 : decode cX11_delete 79 = .ok (.dup, 1) := by decide +kernel
theorem dX11_delete_80 : decode cX11_delete 80 = .ok (.getfield 184, 3) := by decide +kernel
theorem dX11_delete_83 : decode cX11_delete 83 = .ok (.iconst 1, 1) := by decide +kernel
theorem dX11_delete_84 : decode cX11_delete 84 = .ok (.isub, 1) := by decide +kernel
theorem dX11_delete_85 : decode cX11_delete 85 = .ok (.putfield 184, 3) := by decide +kernel
theorem dX11_delete_88 : decode cX11_delete 88 = .ok (.iinc 2 1, 3) := by decide +kernel
theorem dX11_delete_91 : decode cX11_delete 91 = .ok (.goto (-60), 3) := by decide +kernel
theorem dX11_delete_94 : decode cX11_delete 94 = .ok (.return_, 1) := by decide +kernel
set_option maxRecDepth 20000 in
theorem ggX11_at_X11_isCell : GoodIn wsX11_at wsX11_isCell := goodIn_r _ [9, 10, 14, 15, 16, 17, 18, 19, 20, 21, 22, 23, 24, 25, 26, 27, 28, 29, 30, 31, 32, 33, 34, 35, 36, 37, 38, 39, 40, 41, 42, 43, 44] (by decide +kernel) (by decide +kernel)
set_option maxRecDepth 20000 in
theorem gX11_at_X11_isCell : GoodIn wsX11_at (wsV RX11 103 RX11 yX11_isCell wsX11_isCell) := goodIn_app (goodIn_of _ (by decide +kernel)) ggX11_at_X11_isCell
set_option maxRecDepth 20000 in
theorem ggX11_at_X11_power : GoodIn wsX11_at wsX11_power := goodIn_r _ [13, 4] (by decide +kernel) (by decide +kernel)
set_option maxRecDepth 20000 in
theorem gX11_at_X11_power : GoodIn wsX11_at (va_wsS RX11 93 yX11_power wsX11_power) := goodIn_app (goodIn_of _ (by decide +kernel)) ggX11_at_X11_power
theorem dX11_at_0 : decode cX11_at 0 = .ok (.aload_n 0, 1) := by decide +kernel
theorem dX11_at_1 : decode cX11_at 1 = .ok (.aload_n 0, 1) := by decide +kernel
theorem dX11_at_2 : decode cX11_at 2 = .ok (.iload_n 1, 1) := by decide +kernel
theorem dX11_at_3 : decode cX11_at 3 = .ok (.invokevirtual 103, 3) := by decide +kernel
theorem dX11_at_6 : decode cX11_at 6 = .ok (.ifCond .eq 29, 3) := by decide +kernel
theorem dX11_at_9 : decode cX11_at 9 = .ok (.iload_n 2, 1) := by decide +kernel
theorem dX11_at_10 : decode cX11_at 10 = .ok (.ifCond .lt 25, 3) := by decide +kernel
theorem dX11_at_13 : decode cX11_at 13 = .ok (.iload_n 2, 1) := by decide +kernel
theorem dX11_at_14 : decode cX11_at 14 = .ok (.aload_n 0, 1) := by decide +kernel
theorem dX11_at_15 : decode cX11_at 15 = .ok (.getfield 7, 3) := by decide +kernel
theorem dX11_at_18 : decode cX11_at 18 = .ok (.aload_n 0, 1) := by decide +kernel
theorem dX11_at_19 : decode cX11_at 19 = .ok (.iload_n 1, 1) := by decide +kernel
theorem dX11_at_20 : decode cX11_at 20 = .ok (.invokevirtual 103, 3) := by decide +kernel
theorem dX11_at_23 : decode cX11_at 23 = .ok (.ifCond .eq 7, 3) := by decide +kernel
theorem dX11_at_26 : decode cX11_at 26 = .ok (.iload_n 1, 1) := by decide +kernel
theorem dX11_at_27 : decode cX11_at 27 = .ok (.goto 4, 3) := by decide +kernel
theorem dX11_at_30 : decode cX11_at 30 = .ok (.iconst 0, 1) := by decide +kernel
theorem dX11_at_31 : decode cX11_at 31 = .ok (.iaload, 1) := by decide +kernel
theorem dX11_at_32 : decode cX11_at 32 = .ok (.if_icmp .lt 7, 3) := by decide +kernel
theorem dX11_at_35 : decode cX11_at 35 = .ok (.iconst 1, 1) := by decide +kernel
theorem dX11_at_36 : decode cX11_at 36 = .ok (.goto 4, 3) := by decide +kernel
theorem dX11_at_39 : decode cX11_at 39 = .ok (.iconst 0, 1) := by decide +kernel
theorem dX11_at_40 : decode cX11_at 40 = .ok (.putfield 75, 3) := by decide +kernel
theorem dX11_at_43 : decode cX11_at 43 = .ok (.aload_n 0, 1) := by decide +kernel
theorem dX11_at_44 : decode cX11_at 44 = .ok (.getfield 75, 3) := by decide +kernel
theorem dX11_at_47 : decode cX11_at 47 = .ok (.ifCond .le 5, 3) := by decide +kernel
theorem dX11_at_50 : decode cX11_at 50 = .ok (.iconst 0, 1) := by decide +kernel
theorem dX11_at_51 : decode cX11_at 51 = .ok (.ireturn, 1) := by decide +kernel
theorem dX11_at_52 : decode cX11_at 52 = .ok (.aload_n 0, 1) := by decide +kernel
theorem dX11_at_53 : decode cX11_at 53 = .ok (.getfield 13, 3) := by decide +kernel
theorem dX11_at_56 : decode cX11_at 56 = .ok (.iload_n 1, 1) := by decide +kernel
theorem dX11_at_57 : decode cX11_at 57 = .ok (.laload, 1) := by decide +kernel
theorem dX11_at_58 : decode cX11_at 58 = .ok (.lconst 0, 1) := by decide +kernel
theorem dX11_at_59 : decode cX11_at 59 = .ok (.lcmp, 1) := by decide +kernel
theorem dX11_at_60 : decode cX11_at 60 = .ok (.ifCond .ge 13, 3) := by decide +kernel
theorem dX11_at_63 : decode cX11_at 63 = .ok (.aload_n 0, 1) := by decide +kernel
theorem dX11_at_64 : decode cX11_at 64 = .ok (.getfield 13, 3) := by decide +kernel
theorem dX11_at_67 : decode cX11_at 67 = .ok (.iload_n 1, 1) := by decide +kernel
theorem dX11_at_68 : decode cX11_at 68 = .ok (.laload, 1) := by decide +kernel
theorem dX11_at_69 : decode cX11_at 69 = .ok (.lneg, 1) := by decide +kernel
theorem dX11_at_70 : decode cX11_at 70 = .ok (.goto 9, 3) := by decide +kernel
theorem dX11_at_73 : decode cX11_at 73 = .ok (.aload_n 0, 1) := by decide +kernel
theorem dX11_at_74 : decode cX11_at 74 = .ok (.getfield 13, 3) := by decide +kernel
theorem dX11_at_77 : decode cX11_at 77 = .ok (.iload_n 1, 1) := by decide +kernel
theorem dX11_at_78 : decode cX11_at 78 = .ok (.laload, 1) := by decide +kernel
theorem dX11_at_79 : decode cX11_at 79 = .ok (.lstore_n 3, 1) := by decide +kernel
theorem dX11_at_80 : decode cX11_at 80 = .ok (.lload_n 3, 1) := by decide +kernel
theorem dX11_at_81 : decode cX11_at 81 = .ok (.aload_n 0, 1) := by decide +kernel
theorem dX11_at_82 : decode cX11_at 82 = .ok (.getfield 7, 3) := by decide +kernel
theorem dX11_at_85 : decode cX11_at 85 = .ok (.iload_n 1, 1) := by decide +kernel
theorem dX11_at_86 : decode cX11_at 86 = .ok (.iaload, 1) := by decide +kernel
theorem dX11_at_87 : decode cX11_at 87 = .ok (.iconst 1, 1) := by decide +kernel
theorem dX11_at_88 : decode cX11_at 88 = .ok (.isub, 1) := by decide +kernel
theorem dX11_at_89 : decode cX11_at 89 = .ok (.iload_n 2, 1) := by decide +kernel
theorem dX11_at_90 : decode cX11_at 90 = .ok (.isub, 1) := by decide +kernel
theorem dX11_at_91 : decode cX11_at 91 = .ok (.invokestatic 93, 3) := by decide +kernel
theorem dX11_at_94 : decode cX11_at 94 = .ok (.ldiv, 1) := by decide +kernel
theorem dX11_at_95 : decode cX11_at 95 = .ok (.ldc2_w 81, 3) := by decide +kernel
theorem dX11_at_98 : decode cX11_at 98 = .ok (.lrem, 1) := by decide +kernel
theorem dX11_at_99 : decode cX11_at 99 = .ok (.l2i, 1) := by decide +kernel
theorem dX11_at_100 : decode cX11_at 100 = .ok (.istore 5, 2) := by decide +kernel
theorem dX11_at_102 : decode cX11_at 102 = .ok (.iload 5, 2) := by decide +kernel
theorem dX11_at_104 : decode cX11_at 104 = .ok (.aload_n 0, 1) := by decide +kernel
theorem dX11_at_105 : decode cX11_at 105 = .ok (.getfield 13, 3) := by decide +kernel
theorem dX11_at_108 : decode cX11_at 108 = .ok (.iload_n 1, 1) := by decide +kernel
theorem dX11_at_109 : decode cX11_at 109 = .ok (.laload, 1) := by decide +kernel
theorem dX11_at_110 : decode cX11_at 110 = .ok (.lconst 0, 1) := by decide +kernel
theorem dX11_at_111 : decode cX11_at 111 = .ok (.lcmp, 1) := by decide +kernel
theorem dX11_at_112 : decode cX11_at 112 = .ok (.ifCond .ge 20, 3) := by decide +kernel
theorem dX11_at_115 : decode cX11_at 115 = .ok (.iload_n 2, 1) := by decide +kernel
theorem dX11_at_116 : decode cX11_at 116 = .ok (.aload_n 0, 1) := by decide +kernel
theorem dX11_at_117 : decode cX11_at 117 = .ok (.getfield 7, 3) := by decide +kernel
theorem dX11_at_120 : decode cX11_at 120 = .ok (.iload_n 1, 1) := by decide +kernel
theorem dX11_at_121 : decode cX11_at 121 = .ok (.iaload, 1) := by decide +kernel
theorem dX11_at_122 : decode cX11_at 122 = .ok (.iconst 1, 1) := by decide +kernel
theorem dX11_at_123 : decode cX11_at 123 = .ok (.isub, 1) := by decide +kernel
theorem dX11_at_124 : decode cX11_at 124 = .ok (.if_icmp .ne 8, 3) := by decide +kernel
theorem dX11_at_127 : decode cX11_at 127 = .ok (.bipush 112, 2) := by decide +kernel
theorem dX11_at_129 : decode cX11_at 129 = .ok (.goto 5, 3) := by decide +kernel
theorem dX11_at_132 : decode cX11_at 132 = .ok (.bipush 48, 2) := by decide +kernel
theorem dX11_at_134 : decode cX11_at 134 = .ok (.iadd, 1) := by decide +kernel
theorem dX11_at_135 : decode cX11_at 135 = .ok (.i2b, 1) := by decide +kernel
theorem dX11_at_136 : decode cX11_at 136 = .ok (.ireturn, 1) := by decide +kernel
set_option maxRecDepth 20000 in
theorem ggX11_number_X11_isCell : GoodIn wsX11_number wsX11_isCell := goodIn_r _ [7, 8, 9, 10, 11, 12, 13, 14, 15, 16, 17, 18, 19, 20, 21, 22, 23, 24, 25, 26, 27, 28, 29, 30, 31, 32, 33, 34, 35, 36, 37, 38, 39] (by decide +kernel) (by decide +kernel)
set_option maxRecDepth 20000 in
theorem gX11_number_X11_isCell : GoodIn wsX11_number (wsV RX11 103 RX11 yX11_isCell wsX11_isCell) := goodIn_app (goodIn_of _ (by decide +kernel)) ggX11_number_X11_isCell
theorem dX11_number_0 : decode cX11_number 0 = .ok (.aload_n 0, 1) := by decide +kernel
theorem dX11_number_1 : decode cX11_number 1 = .ok (.iconst 0, 1) := by decide +kernel
theorem dX11_number_2 : decode cX11_number 2 = .ok (.putfield 75, 3) := by decide +kernel
theorem dX11_number_5 : decode cX11_number 5 = .ok (.aload_n 0, 1) := by decide +kernel
theorem dX11_number_6 : decode cX11_number 6 = .ok (.iload_n 1, 1) := by decide +kernel
theorem dX11_number_7 : decode cX11_number 7 = .ok (.invokevirtual 103, 3) := by decide +kernel
theorem dX11_number_10 : decode cX11_number 10 = .ok (.ifCond .eq 12, 3) := by decide +kernel
theorem dX11_number_13 : decode cX11_number 13 = .ok (.aload_n 0, 1) := by decide +kernel
theorem dX11_number_14 : decode cX11_number 14 = .ok (.getfield 13, 3) := by decide +kernel
theorem dX11_number_17 : decode cX11_number 17 = .ok (.iload_n 1, 1) := by decide +kernel
theorem dX11_number_18 : decode cX11_number 18 = .ok (.laload, 1) := by decide +kernel
theorem dX11_number_19 : decode cX11_number 19 = .ok (.goto 4, 3) := by decide +kernel
theorem dX11_number_22 : decode cX11_number 22 = .ok (.lconst 0, 1) := by decide +kernel
theorem dX11_number_23 : decode cX11_number 23 = .ok (.lreturn, 1) := by decide +kernel
theorem dX11_record__0 : decode cX11_record_ 0 = .ok (.aload_n 0, 1) := by decide +kernel
theorem dX11_record__1 : decode cX11_record_ 1 = .ok (.iconst 0, 1) := by decide +kernel
theorem dX11_record__2 : decode cX11_record_ 2 = .ok (.putfield 75, 3) := by decide +kernel
theorem dX11_record__5 : decode cX11_record_ 5 = .ok (.iload_n 1, 1) := by decide +kernel
theorem dX11_record__6 : decode cX11_record_ 6 = .ok (.ifCond .lt 21, 3) := by decide +kernel
theorem dX11_record__9 : decode cX11_record_ 9 = .ok (.iload_n 1, 1) := by decide +kernel
theorem dX11_record__10 : decode cX11_record_ 10 = .ok (.iconst 3, 1) := by decide +kernel
theorem dX11_record__11 : decode cX11_record_ 11 = .ok (.if_icmp .gt 16, 3) := by decide +kernel
theorem dX11_record__14 : decode cX11_record_ 14 = .ok (.iload_n 2, 1) := by decide +kernel
theorem dX11_record__15 : decode cX11_record_ 15 = .ok (.ifCond .lt 12, 3) := by decide +kernel
theorem dX11_record__18 : decode cX11_record_ 18 = .ok (.iload_n 3, 1) := by decide +kernel
theorem dX11_record__19 : decode cX11_record_ 19 = .ok (.ifCond .lt 8, 3) := by decide +kernel
theorem dX11_record__22 : decode cX11_record_ 22 = .ok (.iload_n 3, 1) := by decide +kernel
theorem dX11_record__23 : decode cX11_record_ 23 = .ok (.iconst 2, 1) := by decide +kernel
theorem dX11_record__24 : decode cX11_record_ 24 = .ok (.if_icmp .le 5, 3) := by decide +kernel
theorem dX11_record__27 : decode cX11_record_ 27 = .ok (.iconst (-1), 1) := by decide +kernel
theorem dX11_record__28 : decode cX11_record_ 28 = .ok (.ireturn, 1) := by decide +kernel
theorem dX11_record__29 : decode cX11_record_ 29 = .ok (.iconst 0, 1) := by decide +kernel
theorem dX11_record__30 : decode cX11_record_ 30 = .ok (.istore 4, 2) := by decide +kernel
theorem dX11_record__32 : decode cX11_record_ 32 = .ok (.iconst 0, 1) := by decide +kernel
theorem dX11_record__33 : decode cX11_record_ 33 = .ok (.istore 5, 2) := by decide +kernel
theorem dX11_record__35 : decode cX11_record_ 35 = .ok (.iload 5, 2) := by decide +kernel
theorem dX11_record__37 : decode cX11_record_ 37 = .ok (.aload_n 0, 1) := by decide +kernel
theorem dX11_record__38 : decode cX11_record_ 38 = .ok (.getfield 178, 3) := by decide +kernel
theorem dX11_record__41 : decode cX11_record_ 41 = .ok (.if_icmp .ge 84, 3) := by decide +kernel
theorem dX11_record__44 : decode cX11_record_ 44 = .ok (.aload_n 0, 1) := by decide +kernel
theorem dX11_record__45 : decode cX11_record_ 45 = .ok (.getfield 44, 3) := by decide +kernel
theorem dX11_record__48 : decode cX11_record_ 48 = .ok (.iload 5, 2) := by decide +kernel
theorem dX11_record__50 : decode cX11_record_ 50 = .ok (.laload, 1) := by decide +kernel
theorem dX11_record__51 : decode cX11_record_ 51 = .ok (.ldc2_w 187, 3) := by decide +kernel
theorem dX11_record__54 : decode cX11_record_ 54 = .ok (.ldiv, 1) := by decide +kernel
theorem dX11_record__55 : decode cX11_record_ 55 = .ok (.iload_n 1, 1) := by decide +kernel
theorem dX11_record__56 : decode cX11_record_ 56 = .ok (.i2l, 1) := by decide +kernel
theorem dX11_record__57 : decode cX11_record_ 57 = .ok (.lcmp, 1) := by decide +kernel
theorem dX11_record__58 : decode cX11_record_ 58 = .ok (.ifCond .eq 6, 3) := by decide +kernel
theorem dX11_record__61 : decode cX11_record_ 61 = .ok (.goto 58, 3) := by decide +kernel
theorem dX11_record__64 : decode cX11_record_ 64 = .ok (.iload 4, 2) := by decide +kernel
theorem dX11_record__66 : decode cX11_record_ 66 = .ok (.iload_n 2, 1) := by decide +kernel
theorem dX11_record__67 : decode cX11_record_ 67 = .ok (.if_icmp .ne 49, 3) := by decide +kernel
theorem dX11_record__70 : decode cX11_record_ 70 = .ok (.iload_n 3, 1) := by decide +kernel
theorem dX11_record__71 : decode cX11_record_ 71 = .ok (.ifCond .ne 18, 3) := by decide +kernel
theorem dX11_record__74 : decode cX11_record_ 74 = .ok (.aload_n 0, 1) := by decide +kernel
theorem dX11_record__75 : decode cX11_record_ 75 = .ok (.getfield 44, 3) := by decide +kernel
theorem dX11_record__78 : decode cX11_record_ 78 = .ok (.iload 5, 2) := by decide +kernel
theorem dX11_record__80 : decode cX11_record_ 80 = .ok (.laload, 1) := by decide +kernel
theorem dX11_record__81 : decode cX11_record_ 81 = .ok (.ldc2_w 187, 3) := by decide +kernel
theorem dX11_record__84 : decode cX11_record_ 84 = .ok (.lrem, 1) := by decide +kernel
theorem dX11_record__85 : decode cX11_record_ 85 = .ok (.l2i, 1) := by decide +kernel
theorem dX11_record__86 : decode cX11_record_ 86 = .ok (.goto 29, 3) := by decide +kernel
theorem dX11_record__89 : decode cX11_record_ 89 = .ok (.iload_n 3, 1) := by decide +kernel
theorem dX11_record__90 : decode cX11_record_ 90 = .ok (.iconst 1, 1) := by decide +kernel
theorem dX11_record__91 : decode cX11_record_ 91 = .ok (.if_icmp .ne 13, 3) := by decide +kernel
theorem dX11_record__94 : decode cX11_record_ 94 = .ok (.aload_n 0, 1) := by decide +kernel
theorem dX11_record__95 : decode cX11_record_ 95 = .ok (.getfield 47, 3) := by decide +kernel
theorem dX11_record__98 : decode cX11_record_ 98 = .ok (.iload 5, 2) := by decide +kernel
theorem dX11_record__100 : decode cX11_record_ 100 = .ok (.laload, 1) := by decide +kernel
theorem dX11_record__101 : decode cX11_record_ 101 = .ok (.goto 13, 3) := by decide +kernel
theorem dX11_record__104 : decode cX11_record_ 104 = .ok (.aload_n 0, 1) := by decide +kernel
theorem dX11_record__105 : decode cX11_record_ 105 = .ok (.getfield 47, 3) := by decide +kernel
theorem dX11_record__108 : decode cX11_record_ 108 = .ok (.iload 5, 2) := by decide +kernel
theorem dX11_record__110 : decode cX11_record_ 110 = .ok (.laload, 1) := by decide +kernel
theorem dX11_record__111 : decode cX11_record_ 111 = .ok (.bipush 32, 2) := by decide +kernel
theorem dX11_record__113 : decode cX11_record_ 113 = .ok (.lshr, 1) := by decide +kernel
theorem dX11_record__114 : decode cX11_record_ 114 = .ok (.l2i, 1) := by decide +kernel
theorem dX11_record__115 : decode cX11_record_ 115 = .ok (.ireturn, 1) := by decide +kernel
theorem dX11_record__116 : decode cX11_record_ 116 = .ok (.iinc 4 1, 3) := by decide +kernel
theorem dX11_record__119 : decode cX11_record_ 119 = .ok (.iinc 5 1, 3) := by decide +kernel
theorem dX11_record__122 : decode cX11_record_ 122 = .ok (.goto (-87), 3) := by decide +kernel
theorem dX11_record__125 : decode cX11_record_ 125 = .ok (.iconst (-1), 1) := by decide +kernel
theorem dX11_record__126 : decode cX11_record_ 126 = .ok (.ireturn, 1) := by decide +kernel
theorem dX11_second_0 : decode cX11_second 0 = .ok (.aload_n 0, 1) := by decide +kernel
theorem dX11_second_1 : decode cX11_second 1 = .ok (.iconst 0, 1) := by decide +kernel
theorem dX11_second_2 : decode cX11_second 2 = .ok (.putfield 75, 3) := by decide +kernel
theorem dX11_second_5 : decode cX11_second 5 = .ok (.aload_n 0, 1) := by decide +kernel
theorem dX11_second_6 : decode cX11_second 6 = .ok (.getfield 178, 3) := by decide +kernel
theorem dX11_second_9 : decode cX11_second 9 = .ok (.aload_n 0, 1) := by decide +kernel
theorem dX11_second_10 : decode cX11_second 10 = .ok (.getfield 184, 3) := by decide +kernel
theorem dX11_second_13 : decode cX11_second 13 = .ok (.iadd, 1) := by decide +kernel
theorem dX11_second_14 : decode cX11_second 14 = .ok (.aload_n 0, 1) := by decide +kernel
theorem dX11_second_15 : decode cX11_second 15 = .ok (.getfield 175, 3) := by decide +kernel
theorem dX11_second_18 : decode cX11_second 18 = .ok (.iadd, 1) := by decide +kernel
theorem dX11_second_19 : decode cX11_second 19 = .ok (.ireturn, 1) := by decide +kernel
theorem dX11_lay_0 : decode cX11_lay 0 = .ok (.iconst 0, 1) := by decide +kernel
theorem dX11_lay_1 : decode cX11_lay 1 = .ok (.istore_n 1, 1) := by decide +kernel
theorem dX11_lay_2 : decode cX11_lay 2 = .ok (.iconst 0, 1) := by decide +kernel
theorem dX11_lay_3 : decode cX11_lay 3 = .ok (.istore_n 2, 1) := by decide +kernel
theorem dX11_lay_4 : decode cX11_lay 4 = .ok (.aload_n 0, 1) := by decide +kernel
theorem dX11_lay_5 : decode cX11_lay 5 = .ok (.getfield 181, 3) := by decide +kernel
theorem dX11_lay_8 : decode cX11_lay 8 = .ok (.istore_n 3, 1) := by decide +kernel
theorem dX11_lay_9 : decode cX11_lay 9 = .ok (.iload_n 3, 1) := by decide +kernel
theorem dX11_lay_10 : decode cX11_lay 10 = .ok (.ifCond .le 40, 3) := by decide +kernel
theorem dX11_lay_13 : decode cX11_lay 13 = .ok (.aload_n 0, 1) := by decide +kernel
theorem dX11_lay_14 : decode cX11_lay 14 = .ok (.getfield 53, 3) := by decide +kernel
theorem dX11_lay_17 : decode cX11_lay 17 = .ok (.iload_n 3, 1) := by decide +kernel
theorem dX11_lay_18 : decode cX11_lay 18 = .ok (.baload, 1) := by decide +kernel
theorem dX11_lay_19 : decode cX11_lay 19 = .ok (.ifCond .eq 25, 3) := by decide +kernel
theorem dX11_lay_22 : decode cX11_lay 22 = .ok (.aload_n 0, 1) := by decide +kernel
theorem dX11_lay_23 : decode cX11_lay 23 = .ok (.getfield 50, 3) := by decide +kernel
theorem dX11_lay_26 : decode cX11_lay 26 = .ok (.iload_n 3, 1) := by decide +kernel
theorem dX11_lay_27 : decode cX11_lay 27 = .ok (.iaload, 1) := by decide +kernel
theorem dX11_lay_28 : decode cX11_lay 28 = .ok (.ifCond .le 6, 3) := by decide +kernel
theorem dX11_lay_31 : decode cX11_lay 31 = .ok (.goto 13, 3) := by decide +kernel
theorem dX11_lay_34 : decode cX11_lay 34 = .ok (.aload_n 0, 1) := by decide +kernel
theorem dX11_lay_35 : decode cX11_lay 35 = .ok (.getfield 63, 3) := by decide +kernel
theorem dX11_lay_38 : decode cX11_lay 38 = .ok (.iload_n 2, 1) := by decide +kernel
theorem dX11_lay_39 : decode cX11_lay 39 = .ok (.iload_n 3, 1) := by decide +kernel
theorem dX11_lay_40 : decode cX11_lay 40 = .ok (.iastore, 1) := by decide +kernel
theorem dX11_lay_41 : decode cX11_lay 41 = .ok (.iinc 2 1, 3) := by decide +kernel
theorem dX11_lay_44 : decode cX11_lay 44 = .ok (.iinc 3 (-1), 3) := by decide +kernel
theorem dX11_lay_47 : decode cX11_lay 47 = .ok (.goto (-38), 3) := by decide +kernel
theorem dX11_lay_50 : decode cX11_lay 50 = .ok (.iload_n 2, 1) := by decide +kernel
theorem dX11_lay_51 : decode cX11_lay 51 = .ok (.ifCond .le 79, 3) := by decide +kernel
theorem dX11_lay_54 : decode cX11_lay 54 = .ok (.iinc 2 (-1), 3) := by decide +kernel
theorem dX11_lay_57 : decode cX11_lay 57 = .ok (.aload_n 0, 1) := by decide +kernel
theorem dX11_lay_58 : decode cX11_lay 58 = .ok (.getfield 63, 3) := by decide +kernel
theorem dX11_lay_61 : decode cX11_lay 61 = .ok (.iload_n 2, 1) := by decide +kernel
theorem dX11_lay_62 : decode cX11_lay 62 = .ok (.iaload, 1) := by decide +kernel
theorem dX11_lay_63 : decode cX11_lay 63 = .ok (.istore_n 3, 1) := by decide +kernel
theorem dX11_lay_64 : decode cX11_lay 64 = .ok (.aload_n 0, 1) := by decide +kernel
theorem dX11_lay_65 : decode cX11_lay 65 = .ok (.getfield 60, 3) := by decide +kernel
theorem dX11_lay_68 : decode cX11_lay 68 = .ok (.iload_n 1, 1) := by decide +kernel
theorem dX11_lay_69 : decode cX11_lay 69 = .ok (.iload_n 3, 1) := by decide +kernel
theorem dX11_lay_70 : decode cX11_lay 70 = .ok (.iastore, 1) := by decide +kernel
theorem dX11_lay_71 : decode cX11_lay 71 = .ok (.iinc 1 1, 3) := by decide +kernel
theorem dX11_lay_74 : decode cX11_lay 74 = .ok (.aload_n 0, 1) := by decide +kernel
theorem dX11_lay_75 : decode cX11_lay 75 = .ok (.getfield 181, 3) := by decide +kernel
theorem dX11_lay_78 : decode cX11_lay 78 = .ok (.istore 4, 2) := by decide +kernel
theorem dX11_lay_80 : decode cX11_lay 80 = .ok (.iload 4, 2) := by decide +kernel
theorem dX11_lay_82 : decode cX11_lay 82 = .ok (.iload_n 3, 1) := by decide +kernel
theorem dX11_lay_83 : decode cX11_lay 83 = .ok (.if_icmp .le 44, 3) := by decide +kernel
theorem dX11_lay_86 : decode cX11_lay 86 = .ok (.aload_n 0, 1) := by decide +kernel
theorem dX11_lay_87 : decode cX11_lay 87 = .ok (.getfield 53, 3) := by decide +kernel
theorem dX11_lay_90 : decode cX11_lay 90 = .ok (.iload 4, 2) := by decide +kernel
theorem dX11_lay_92 : decode cX11_lay 92 = .ok (.baload, 1) := by decide +kernel
theorem dX11_lay_93 : decode cX11_lay 93 = .ok (.ifCond .eq 28, 3) := by decide +kernel
theorem dX11_lay_96 : decode cX11_lay 96 = .ok (.aload_n 0, 1) := by decide +kernel
theorem dX11_lay_97 : decode cX11_lay 97 = .ok (.getfield 50, 3) := by decide +kernel
theorem dX11_lay_100 : decode cX11_lay 100 = .ok (.iload 4, 2) := by decide +kernel
theorem dX11_lay_102 : decode cX11_lay 102 = .ok (.iaload, 1) := by decide +kernel
theorem dX11_lay_103 : decode cX11_lay 103 = .ok (.iload_n 3, 1) := by decide +kernel
theorem dX11_lay_104 : decode cX11_lay 104 = .ok (.if_icmp .eq 6, 3) := by decide +kernel
theorem dX11_lay_107 : decode cX11_lay 107 = .ok (.goto 14, 3) := by decide +kernel
theorem dX11_lay_110 : decode cX11_lay 110 = .ok (.aload_n 0, 1) := by decide +kernel
theorem dX11_lay_111 : decode cX11_lay 111 = .ok (.getfield 63, 3) := by decide +kernel
theorem dX11_lay_114 : decode cX11_lay 114 = .ok (.iload_n 2, 1) := by decide +kernel
theorem dX11_lay_115 : decode cX11_lay 115 = .ok (.iload 4, 2) := by decide +kernel
theorem dX11_lay_117 : decode cX11_lay 117 = .ok (.iastore, 1) := by decide +kernel
theorem dX11_lay_118 : decode cX11_lay 118 = .ok (.iinc 2 1, 3) := by decide +kernel
theorem dX11_lay_121 : decode cX11_lay 121 = .ok (.iinc 4 (-1), 3) := by decide +kernel
theorem dX11_lay_124 : decode cX11_lay 124 = .ok (.goto (-44), 3) := by decide +kernel
theorem dX11_lay_127 : decode cX11_lay 127 = .ok (.goto (-77), 3) := by decide +kernel
theorem dX11_lay_130 : decode cX11_lay 130 = .ok (.return_, 1) := by decide +kernel
set_option maxRecDepth 20000 in
theorem ggX11_segment_X11_lay : GoodIn wsX11_segment wsX11_lay := goodIn_r _ [10, 11, 12, 4, 13, 3, 14, 15, 16, 17, 18, 19, 20, 21, 22, 23, 24, 25, 26, 27, 28, 29, 30, 31, 32, 33, 34, 35, 36, 37, 38, 39, 40, 41, 42, 43, 44] (by decide +kernel) (by decide +kernel)
set_option maxRecDepth 20000 in
theorem gX11_segment_X11_lay : GoodIn wsX11_segment (wsV RX11 189 RX11 yX11_lay wsX11_lay) := goodIn_app (goodIn_of _ (by decide +kernel)) ggX11_segment_X11_lay
theorem dX11_segment_0 : decode cX11_segment 0 = .ok (.aload_n 0, 1) := by decide +kernel
theorem dX11_segment_1 : decode cX11_segment 1 = .ok (.iconst 0, 1) := by decide +kernel
theorem dX11_segment_2 : decode cX11_segment 2 = .ok (.putfield 75, 3) := by decide +kernel
theorem dX11_segment_5 : decode cX11_segment 5 = .ok (.iload_n 1, 1) := by decide +kernel
theorem dX11_segment_6 : decode cX11_segment 6 = .ok (.ifCond .lt 20, 3) := by decide +kernel
theorem dX11_segment_9 : decode cX11_segment 9 = .ok (.iload_n 1, 1) := by decide +kernel
theorem dX11_segment_10 : decode cX11_segment 10 = .ok (.aload_n 0, 1) := by decide +kernel
theorem dX11_segment_11 : decode cX11_segment 11 = .ok (.getfield 184, 3) := by decide +kernel
theorem dX11_segment_14 : decode cX11_segment 14 = .ok (.if_icmp .ge 12, 3) := by decide +kernel
theorem dX11_segment_17 : decode cX11_segment 17 = .ok (.iload_n 2, 1) := by decide +kernel
theorem dX11_segment_18 : decode cX11_segment 18 = .ok (.ifCond .lt 8, 3) := by decide +kernel
theorem dX11_segment_21 : decode cX11_segment 21 = .ok (.iload_n 2, 1) := by decide +kernel
theorem dX11_segment_22 : decode cX11_segment 22 = .ok (.iconst 4, 1) := by decide +kernel
theorem dX11_segment_23 : decode cX11_segment 23 = .ok (.if_icmp .le 5, 3) := by decide +kernel
theorem dX11_segment_26 : decode cX11_segment 26 = .ok (.iconst (-1), 1) := by decide +kernel
theorem dX11_segment_27 : decode cX11_segment 27 = .ok (.ireturn, 1) := by decide +kernel
theorem dX11_segment_28 : decode cX11_segment 28 = .ok (.aload_n 0, 1) := by decide +kernel
theorem dX11_segment_29 : decode cX11_segment 29 = .ok (.invokevirtual 189, 3) := by decide +kernel
theorem dX11_segment_32 : decode cX11_segment 32 = .ok (.aload_n 0, 1) := by decide +kernel
theorem dX11_segment_33 : decode cX11_segment 33 = .ok (.getfield 60, 3) := by decide +kernel
theorem dX11_segment_36 : decode cX11_segment 36 = .ok (.iload_n 1, 1) := by decide +kernel
theorem dX11_segment_37 : decode cX11_segment 37 = .ok (.iaload, 1) := by decide +kernel
theorem dX11_segment_38 : decode cX11_segment 38 = .ok (.istore_n 3, 1) := by decide +kernel
theorem dX11_segment_39 : decode cX11_segment 39 = .ok (.iconst 0, 1) := by decide +kernel
theorem dX11_segment_40 : decode cX11_segment 40 = .ok (.istore 4, 2) := by decide +kernel
theorem dX11_segment_42 : decode cX11_segment 42 = .ok (.aload_n 0, 1) := by decide +kernel
theorem dX11_segment_43 : decode cX11_segment 43 = .ok (.getfield 50, 3) := by decide +kernel
theorem dX11_segment_46 : decode cX11_segment 46 = .ok (.iload_n 3, 1) := by decide +kernel
theorem dX11_segment_47 : decode cX11_segment 47 = .ok (.iaload, 1) := by decide +kernel
theorem dX11_segment_48 : decode cX11_segment 48 = .ok (.istore 5, 2) := by decide +kernel
theorem dX11_segment_50 : decode cX11_segment 50 = .ok (.iload 5, 2) := by decide +kernel
theorem dX11_segment_52 : decode cX11_segment 52 = .ok (.ifCond .le 18, 3) := by decide +kernel
theorem dX11_segment_55 : decode cX11_segment 55 = .ok (.iinc 4 1, 3) := by decide +kernel
theorem dX11_segment_58 : decode cX11_segment 58 = .ok (.aload_n 0, 1) := by decide +kernel
theorem dX11_segment_59 : decode cX11_segment 59 = .ok (.getfield 50, 3) := by decide +kernel
theorem dX11_segment_62 : decode cX11_segment 62 = .ok (.iload 5, 2) := by decide +kernel
theorem dX11_segment_64 : decode cX11_segment 64 = .ok (.iaload, 1) := by decide +kernel
theorem dX11_segment_65 : decode cX11_segment 65 = .ok (.istore 5, 2) := by decide +kernel
theorem dX11_segment_67 : decode cX11_segment 67 = .ok (.goto (-17), 3) := by decide +kernel
theorem dX11_segment_70 : decode cX11_segment 70 = .ok (.iload_n 2, 1) := by decide +kernel
theorem dX11_segment_71 : decode cX11_segment 71 = .ok (.ifCond .ne 7, 3) := by decide +kernel
theorem dX11_segment_74 : decode cX11_segment 74 = .ok (.iload_n 3, 1) := by decide +kernel
theorem dX11_segment_75 : decode cX11_segment 75 = .ok (.goto 51, 3) := by decide +kernel
theorem dX11_segment_78 : decode cX11_segment 78 = .ok (.iload_n 2, 1) := by decide +kernel
theorem dX11_segment_79 : decode cX11_segment 79 = .ok (.iconst 1, 1) := by decide +kernel
theorem dX11_segment_80 : decode cX11_segment 80 = .ok (.if_icmp .ne 12, 3) := by decide +kernel
theorem dX11_segment_83 : decode cX11_segment 83 = .ok (.aload_n 0, 1) := by decide +kernel
theorem dX11_segment_84 : decode cX11_segment 84 = .ok (.getfield 50, 3) := by decide +kernel
theorem dX11_segment_87 : decode cX11_segment 87 = .ok (.iload_n 3, 1) := by decide +kernel
theorem dX11_segment_88 : decode cX11_segment 88 = .ok (.iaload, 1) := by decide +kernel
theorem dX11_segment_89 : decode cX11_segment 89 = .ok (.goto 37, 3) := by decide +kernel
theorem dX11_segment_92 : decode cX11_segment 92 = .ok (.iload_n 2, 1) := by decide +kernel
theorem dX11_segment_93 : decode cX11_segment 93 = .ok (.iconst 2, 1) := by decide +kernel
theorem dX11_segment_94 : decode cX11_segment 94 = .ok (.if_icmp .ne 8, 3) := by decide +kernel
theorem dX11_segment_97 : decode cX11_segment 97 = .ok (.iload 4, 2) := by decide +kernel
theorem dX11_segment_99 : decode cX11_segment 99 = .ok (.goto 27, 3) := by decide +kernel
theorem dX11_segment_102 : decode cX11_segment 102 = .ok (.iload_n 2, 1) := by decide +kernel
theorem dX11_segment_103 : decode cX11_segment 103 = .ok (.iconst 3, 1) := by decide +kernel
theorem dX11_segment_104 : decode cX11_segment 104 = .ok (.if_icmp .ne 12, 3) := by decide +kernel
theorem dX11_segment_107 : decode cX11_segment 107 = .ok (.aload_n 0, 1) := by decide +kernel
theorem dX11_segment_108 : decode cX11_segment 108 = .ok (.getfield 57, 3) := by decide +kernel
theorem dX11_segment_111 : decode cX11_segment 111 = .ok (.iload_n 3, 1) := by decide +kernel
theorem dX11_segment_112 : decode cX11_segment 112 = .ok (.laload, 1) := by decide +kernel
theorem dX11_segment_113 : decode cX11_segment 113 = .ok (.goto 12, 3) := by decide +kernel
theorem dX11_segment_116 : decode cX11_segment 116 = .ok (.aload_n 0, 1) := by decide +kernel
theorem dX11_segment_117 : decode cX11_segment 117 = .ok (.getfield 57, 3) := by decide +kernel
theorem dX11_segment_120 : decode cX11_segment 120 = .ok (.iload_n 3, 1) := by decide +kernel
theorem dX11_segment_121 : decode cX11_segment 121 = .ok (.laload, 1) := by decide +kernel
theorem dX11_segment_122 : decode cX11_segment 122 = .ok (.bipush 32, 2) := by decide +kernel
theorem dX11_segment_124 : decode cX11_segment 124 = .ok (.lshr, 1) := by decide +kernel
theorem dX11_segment_125 : decode cX11_segment 125 = .ok (.l2i, 1) := by decide +kernel
theorem dX11_segment_126 : decode cX11_segment 126 = .ok (.ireturn, 1) := by decide +kernel
theorem dX11_screen_0 : decode cX11_screen 0 = .ok (.aload_n 0, 1) := by decide +kernel
theorem dX11_screen_1 : decode cX11_screen 1 = .ok (.iconst 0, 1) := by decide +kernel
theorem dX11_screen_2 : decode cX11_screen 2 = .ok (.putfield 75, 3) := by decide +kernel
theorem dX11_screen_5 : decode cX11_screen 5 = .ok (.iload_n 1, 1) := by decide +kernel
theorem dX11_screen_6 : decode cX11_screen 6 = .ok (.iconst 1, 1) := by decide +kernel
theorem dX11_screen_7 : decode cX11_screen 7 = .ok (.if_icmp .lt 20, 3) := by decide +kernel
theorem dX11_screen_10 : decode cX11_screen 10 = .ok (.iload_n 1, 1) := by decide +kernel
theorem dX11_screen_11 : decode cX11_screen 11 = .ok (.bipush 24, 2) := by decide +kernel
theorem dX11_screen_13 : decode cX11_screen 13 = .ok (.if_icmp .gt 14, 3) := by decide +kernel
theorem dX11_screen_16 : decode cX11_screen 16 = .ok (.iload_n 2, 1) := by decide +kernel
theorem dX11_screen_17 : decode cX11_screen 17 = .ok (.iconst 1, 1) := by decide +kernel
theorem dX11_screen_18 : decode cX11_screen 18 = .ok (.if_icmp .lt 9, 3) := by decide +kernel
theorem dX11_screen_21 : decode cX11_screen 21 = .ok (.iload_n 2, 1) := by decide +kernel
theorem dX11_screen_22 : decode cX11_screen 22 = .ok (.bipush 80, 2) := by decide +kernel
theorem dX11_screen_24 : decode cX11_screen 24 = .ok (.if_icmp .le 5, 3) := by decide +kernel
theorem dX11_screen_27 : decode cX11_screen 27 = .ok (.iconst (-1), 1) := by decide +kernel
theorem dX11_screen_28 : decode cX11_screen 28 = .ok (.ireturn, 1) := by decide +kernel
theorem dX11_screen_29 : decode cX11_screen 29 = .ok (.aload_n 0, 1) := by decide +kernel
theorem dX11_screen_30 : decode cX11_screen 30 = .ok (.getfield 66, 3) := by decide +kernel
theorem dX11_screen_33 : decode cX11_screen 33 = .ok (.bipush 80, 2) := by decide +kernel
theorem dX11_screen_35 : decode cX11_screen 35 = .ok (.iload_n 1, 1) := by decide +kernel
theorem dX11_screen_36 : decode cX11_screen 36 = .ok (.iconst 1, 1) := by decide +kernel
theorem dX11_screen_37 : decode cX11_screen 37 = .ok (.isub, 1) := by decide +kernel
theorem dX11_screen_38 : decode cX11_screen 38 = .ok (.imul, 1) := by decide +kernel
theorem dX11_screen_39 : decode cX11_screen 39 = .ok (.iload_n 2, 1) := by decide +kernel
theorem dX11_screen_40 : decode cX11_screen 40 = .ok (.iadd, 1) := by decide +kernel
theorem dX11_screen_41 : decode cX11_screen 41 = .ok (.iconst 1, 1) := by decide +kernel
theorem dX11_screen_42 : decode cX11_screen 42 = .ok (.isub, 1) := by decide +kernel
theorem dX11_screen_43 : decode cX11_screen 43 = .ok (.iaload, 1) := by decide +kernel
theorem dX11_screen_44 : decode cX11_screen 44 = .ok (.istore_n 3, 1) := by decide +kernel
theorem dX11_screen_45 : decode cX11_screen 45 = .ok (.iload_n 3, 1) := by decide +kernel
theorem dX11_screen_46 : decode cX11_screen 46 = .ok (.ifCond .ne 8, 3) := by decide +kernel
theorem dX11_screen_49 : decode cX11_screen 49 = .ok (.bipush 32, 2) := by decide +kernel
theorem dX11_screen_51 : decode cX11_screen 51 = .ok (.goto 4, 3) := by decide +kernel
theorem dX11_screen_54 : decode cX11_screen 54 = .ok (.iload_n 3, 1) := by decide +kernel
theorem dX11_screen_55 : decode cX11_screen 55 = .ok (.ireturn, 1) := by decide +kernel
set_option maxRecDepth 20000 in
theorem ggX11_real_X11_isCell : GoodIn wsX11_real wsX11_isCell := goodIn_r _ [8, 9, 10, 11, 12, 13, 14, 15, 16, 17, 18, 19, 20, 21, 22, 23, 24, 25, 26, 27, 28, 29, 30, 31, 32, 33, 34, 35, 36, 37, 38, 39, 40] (by decide +kernel) (by decide +kernel)
set_option maxRecDepth 20000 in
theorem gX11_real_X11_isCell : GoodIn wsX11_real (wsV RX11 103 RX11 yX11_isCell wsX11_isCell) := goodIn_app (goodIn_of _ (by decide +kernel)) ggX11_real_X11_isCell
theorem dX11_real_0 : decode cX11_real 0 = .ok (.aload_n 0, 1) := by decide +kernel
theorem dX11_real_1 : decode cX11_real 1 = .ok (.iconst 0, 1) := by decide +kernel
theorem dX11_real_2 : decode cX11_real 2 = .ok (.putfield 75, 3) := by decide +kernel
theorem dX11_real_5 : decode cX11_real 5 = .ok (.aload_n 0, 1) := by decide +kernel
theorem dX11_real_6 : decode cX11_real 6 = .ok (.iload_n 1, 1) := by decide +kernel
theorem dX11_real_7 : decode cX11_real 7 = .ok (.invokevirtual 103, 3) := by decide +kernel
theorem dX11_real_10 : decode cX11_real 10 = .ok (.ifCond .eq 17, 3) := by decide +kernel
theorem dX11_real_13 : decode cX11_real 13 = .ok (.aload_n 0, 1) := by decide +kernel
theorem dX11_real_14 : decode cX11_real 14 = .ok (.getfield 13, 3) := by decide +kernel
theorem dX11_real_17 : decode cX11_real 17 = .ok (.iload_n 1, 1) := by decide +kernel
theorem dX11_real_18 : decode cX11_real 18 = .ok (.laload, 1) := by decide +kernel
theorem dX11_real_19 : decode cX11_real 19 = .ok (.l2d, 1) := by decide +kernel
theorem dX11_real_20 : decode cX11_real 20 = .ok (.ldc2_w 192, 3) := by decide +kernel
theorem dX11_real_23 : decode cX11_real 23 = .ok (.ddiv, 1) := by decide +kernel
theorem dX11_real_24 : decode cX11_real 24 = .ok (.goto 4, 3) := by decide +kernel
theorem dX11_real_27 : decode cX11_real 27 = .ok (.dconst 0, 1) := by decide +kernel
theorem dX11_real_28 : decode cX11_real 28 = .ok (.dreturn, 1) := by decide +kernel
theorem dX11_refused_0 : decode cX11_refused 0 = .ok (.aload_n 0, 1) := by decide +kernel
theorem dX11_refused_1 : decode cX11_refused 1 = .ok (.iconst 0, 1) := by decide +kernel
theorem dX11_refused_2 : decode cX11_refused 2 = .ok (.putfield 75, 3) := by decide +kernel
theorem dX11_refused_5 : decode cX11_refused 5 = .ok (.aload_n 0, 1) := by decide +kernel
theorem dX11_refused_6 : decode cX11_refused 6 = .ok (.getfield 78, 3) := by decide +kernel
theorem dX11_refused_9 : decode cX11_refused 9 = .ok (.ireturn, 1) := by decide +kernel
theorem dX11_count_0 : decode cX11_count 0 = .ok (.aload_n 0, 1) := by decide +kernel
theorem dX11_count_1 : decode cX11_count 1 = .ok (.iconst 0, 1) := by decide +kernel
theorem dX11_count_2 : decode cX11_count 2 = .ok (.putfield 75, 3) := by decide +kernel
theorem dX11_count_5 : decode cX11_count 5 = .ok (.iload_n 1, 1) := by decide +kernel
theorem dX11_count_6 : decode cX11_count 6 = .ok (.ifCond .ne 10, 3) := by decide +kernel
theorem dX11_count_9 : decode cX11_count 9 = .ok (.aload_n 0, 1) := by decide +kernel
theorem dX11_count_10 : decode cX11_count 10 = .ok (.getfield 83, 3) := by decide +kernel
theorem dX11_count_13 : decode cX11_count 13 = .ok (.goto 64, 3) := by decide +kernel
theorem dX11_count_16 : decode cX11_count 16 = .ok (.iload_n 1, 1) := by decide +kernel
theorem dX11_count_17 : decode cX11_count 17 = .ok (.iconst 1, 1) := by decide +kernel
theorem dX11_count_18 : decode cX11_count 18 = .ok (.if_icmp .ne 10, 3) := by decide +kernel
theorem dX11_count_21 : decode cX11_count 21 = .ok (.aload_n 0, 1) := by decide +kernel
theorem dX11_count_22 : decode cX11_count 22 = .ok (.getfield 86, 3) := by decide +kernel
theorem dX11_count_25 : decode cX11_count 25 = .ok (.goto 52, 3) := by decide +kernel
theorem dX11_count_28 : decode cX11_count 28 = .ok (.iload_n 1, 1) := by decide +kernel
theorem dX11_count_29 : decode cX11_count 29 = .ok (.iconst 2, 1) := by decide +kernel
theorem dX11_count_30 : decode cX11_count 30 = .ok (.if_icmp .ne 10, 3) := by decide +kernel
theorem dX11_count_33 : decode cX11_count 33 = .ok (.aload_n 0, 1) := by decide +kernel
theorem dX11_count_34 : decode cX11_count 34 = .ok (.getfield 148, 3) := by decide +kernel
theorem dX11_count_37 : decode cX11_count 37 = .ok (.goto 40, 3) := by decide +kernel
theorem dX11_count_40 : decode cX11_count 40 = .ok (.iload_n 1, 1) := by decide +kernel
theorem dX11_count_41 : decode cX11_count 41 = .ok (.iconst 3, 1) := by decide +kernel
theorem dX11_count_42 : decode cX11_count 42 = .ok (.if_icmp .ne 10, 3) := by decide +kernel
theorem dX11_count_45 : decode cX11_count 45 = .ok (.aload_n 0, 1) := by decide +kernel
theorem dX11_count_46 : decode cX11_count 46 = .ok (.getfield 178, 3) := by decide +kernel
theorem dX11_count_49 : decode cX11_count 49 = .ok (.goto 28, 3) := by decide +kernel
theorem dX11_count_52 : decode cX11_count 52 = .ok (.iload_n 1, 1) := by decide +kernel
theorem dX11_count_53 : decode cX11_count 53 = .ok (.iconst 4, 1) := by decide +kernel
theorem dX11_count_54 : decode cX11_count 54 = .ok (.if_icmp .ne 10, 3) := by decide +kernel
theorem dX11_count_57 : decode cX11_count 57 = .ok (.aload_n 0, 1) := by decide +kernel
theorem dX11_count_58 : decode cX11_count 58 = .ok (.getfield 184, 3) := by decide +kernel
theorem dX11_count_61 : decode cX11_count 61 = .ok (.goto 16, 3) := by decide +kernel
theorem dX11_count_64 : decode cX11_count 64 = .ok (.iload_n 1, 1) := by decide +kernel
theorem dX11_count_65 : decode cX11_count 65 = .ok (.iconst 5, 1) := by decide +kernel
theorem dX11_count_66 : decode cX11_count 66 = .ok (.if_icmp .ne 10, 3) := by decide +kernel
theorem dX11_count_69 : decode cX11_count 69 = .ok (.aload_n 0, 1) := by decide +kernel
theorem dX11_count_70 : decode cX11_count 70 = .ok (.getfield 114, 3) := by decide +kernel
theorem dX11_count_73 : decode cX11_count 73 = .ok (.goto 4, 3) := by decide +kernel
theorem dX11_count_76 : decode cX11_count 76 = .ok (.iconst (-1), 1) := by decide +kernel
theorem dX11_count_77 : decode cX11_count 77 = .ok (.ireturn, 1) := by decide +kernel
