theorem dX4_rescues_125 : decode cX4_rescues 125 = .ok (.invokevirtual 81, 3) := by decide +kernel
theorem dX4_rescues_128 : decode cX4_rescues 128 = .ok (.aload_n 0, 1) := by decide +kernel
theorem dX4_rescues_129 : decode cX4_rescues 129 = .ok (.iload 7, 2) := by decide +kernel
theorem dX4_rescues_131 : decode cX4_rescues 131 = .ok (.iconst 0, 1) := by decide +kernel
theorem dX4_rescues_132 : decode cX4_rescues 132 = .ok (.iload_n 1, 1) := by decide +kernel
theorem dX4_rescues_133 : decode cX4_rescues 133 = .ok (.invokevirtual 78, 3) := by decide +kernel
theorem dX4_rescues_136 : decode cX4_rescues 136 = .ok (.iinc 6 1, 3) := by decide +kernel
theorem dX4_rescues_139 : decode cX4_rescues 139 = .ok (.goto (-97), 3) := by decide +kernel
theorem dX4_rescues_142 : decode cX4_rescues 142 = .ok (.aload_n 0, 1) := by decide +kernel
theorem dX4_rescues_143 : decode cX4_rescues 143 = .ok (.getfield 35, 3) := by decide +kernel
theorem dX4_rescues_146 : decode cX4_rescues 146 = .ok (.iload_n 1, 1) := by decide +kernel
theorem dX4_rescues_147 : decode cX4_rescues 147 = .ok (.invokevirtual 92, 3) := by decide +kernel
theorem dX4_rescues_150 : decode cX4_rescues 150 = .ok (.iload 4, 2) := by decide +kernel
theorem dX4_rescues_152 : decode cX4_rescues 152 = .ok (.if_icmp .le 7, 3) := by decide +kernel
theorem dX4_rescues_155 : decode cX4_rescues 155 = .ok (.iconst 1, 1) := by decide +kernel
theorem dX4_rescues_156 : decode cX4_rescues 156 = .ok (.goto 4, 3) := by decide +kernel
theorem dX4_rescues_159 : decode cX4_rescues 159 = .ok (.iconst 0, 1) := by decide +kernel
theorem dX4_rescues_160 : decode cX4_rescues 160 = .ok (.ireturn, 1) := by decide +kernel
set_option maxRecDepth 20000 in
theorem ggX4_richest_X2_get : GoodIn wsX4_richest wsX2_get := goodIn_r _ [7, 8, 9, 10, 35, 36, 37] (by decide +kernel) (by decide +kernel)
set_option maxRecDepth 20000 in
theorem gX4_richest_X2_get : GoodIn wsX4_richest (wsV RX4 105 RX2 yX2_get wsX2_get) := goodIn_app (goodIn_of _ (by decide +kernel)) ggX4_richest_X2_get
set_option maxRecDepth 20000 in
theorem ggX4_richest_X2_size : GoodIn wsX4_richest wsX2_size := goodIn_r _ [14, 9, 35, 36, 37] (by decide +kernel) (by decide +kernel)
set_option maxRecDepth 20000 in
theorem gX4_richest_X2_size : GoodIn wsX4_richest (wsV RX4 92 RX2 yX2_size wsX2_size) := goodIn_app (goodIn_of _ (by decide +kernel)) ggX4_richest_X2_size
set_option maxRecDepth 20000 in
theorem ggX4_richest_X5_get : GoodIn wsX4_richest wsX5_get := goodIn_r _ [19, 20, 21, 22, 38, 39, 40, 41] (by decide +kernel) (by decide +kernel)
set_option maxRecDepth 20000 in
theorem gX4_richest_X5_get : GoodIn wsX4_richest (wsV RX4 96 RX5 yX5_get wsX5_get) := goodIn_app (goodIn_of _ (by decide +kernel)) ggX4_richest_X5_get
theorem dX4_richest_0 : decode cX4_richest 0 = .ok (.aload_n 0, 1) := by decide +kernel
theorem dX4_richest_1 : decode cX4_richest 1 = .ok (.getfield 35, 3) := by decide +kernel
theorem dX4_richest_4 : decode cX4_richest 4 = .ok (.iload_n 1, 1) := by decide +kernel
theorem dX4_richest_5 : decode cX4_richest 5 = .ok (.iconst 0, 1) := by decide +kernel
theorem dX4_richest_6 : decode cX4_richest 6 = .ok (.invokevirtual 105, 3) := by decide +kernel
theorem dX4_richest_9 : decode cX4_richest 9 = .ok (.istore_n 2, 1) := by decide +kernel
theorem dX4_richest_10 : decode cX4_richest 10 = .ok (.iconst 1, 1) := by decide +kernel
theorem dX4_richest_11 : decode cX4_richest 11 = .ok (.istore_n 3, 1) := by decide +kernel
theorem dX4_richest_12 : decode cX4_richest 12 = .ok (.iload_n 3, 1) := by decide +kernel
theorem dX4_richest_13 : decode cX4_richest 13 = .ok (.aload_n 0, 1) := by decide +kernel
theorem dX4_richest_14 : decode cX4_richest 14 = .ok (.getfield 35, 3) := by decide +kernel
theorem dX4_richest_17 : decode cX4_richest 17 = .ok (.iload_n 1, 1) := by decide +kernel
theorem dX4_richest_18 : decode cX4_richest 18 = .ok (.invokevirtual 92, 3) := by decide +kernel
theorem dX4_richest_21 : decode cX4_richest 21 = .ok (.if_icmp .ge 45, 3) := by decide +kernel
theorem dX4_richest_24 : decode cX4_richest 24 = .ok (.aload_n 0, 1) := by decide +kernel
theorem dX4_richest_25 : decode cX4_richest 25 = .ok (.getfield 35, 3) := by decide +kernel
theorem dX4_richest_28 : decode cX4_richest 28 = .ok (.iload_n 1, 1) := by decide +kernel
theorem dX4_richest_29 : decode cX4_richest 29 = .ok (.iload_n 3, 1) := by decide +kernel
theorem dX4_richest_30 : decode cX4_richest 30 = .ok (.invokevirtual 105, 3) := by decide +kernel
theorem dX4_richest_33 : decode cX4_richest 33 = .ok (.istore 4, 2) := by decide +kernel
theorem dX4_richest_35 : decode cX4_richest 35 = .ok (.aload_n 0, 1) := by decide +kernel
theorem dX4_richest_36 : decode cX4_richest 36 = .ok (.getfield 29, 3) := by decide +kernel
theorem dX4_richest_39 : decode cX4_richest 39 = .ok (.iload 4, 2) := by decide +kernel
theorem dX4_richest_41 : decode cX4_richest 41 = .ok (.iconst 3, 1) := by decide +kernel
theorem dX4_richest_42 : decode cX4_richest 42 = .ok (.invokevirtual 96, 3) := by decide +kernel
theorem dX4_richest_45 : decode cX4_richest 45 = .ok (.aload_n 0, 1) := by decide +kernel
theorem dX4_richest_46 : decode cX4_richest 46 = .ok (.getfield 29, 3) := by decide +kernel
theorem dX4_richest_49 : decode cX4_richest 49 = .ok (.iload_n 2, 1) := by decide +kernel
theorem dX4_richest_50 : decode cX4_richest 50 = .ok (.iconst 3, 1) := by decide +kernel
theorem dX4_richest_51 : decode cX4_richest 51 = .ok (.invokevirtual 96, 3) := by decide +kernel
theorem dX4_richest_54 : decode cX4_richest 54 = .ok (.if_icmp .le 6, 3) := by decide +kernel
theorem dX4_richest_57 : decode cX4_richest 57 = .ok (.iload 4, 2) := by decide +kernel
theorem dX4_richest_59 : decode cX4_richest 59 = .ok (.istore_n 2, 1) := by decide +kernel
theorem dX4_richest_60 : decode cX4_richest 60 = .ok (.iinc 3 1, 3) := by decide +kernel
theorem dX4_richest_63 : decode cX4_richest 63 = .ok (.goto (-51), 3) := by decide +kernel
theorem dX4_richest_66 : decode cX4_richest 66 = .ok (.iload_n 2, 1) := by decide +kernel
theorem dX4_richest_67 : decode cX4_richest 67 = .ok (.ireturn, 1) := by decide +kernel
set_option maxRecDepth 20000 in
theorem ggX4_giveFuel_X5_get : GoodIn wsX4_giveFuel wsX5_get := goodIn_r _ [10, 11, 12, 13, 30, 31, 32, 33] (by decide +kernel) (by decide +kernel)
set_option maxRecDepth 20000 in
theorem gX4_giveFuel_X5_get : GoodIn wsX4_giveFuel (wsV RX4 96 RX5 yX5_get wsX5_get) := goodIn_app (goodIn_of _ (by decide +kernel)) ggX4_giveFuel_X5_get
set_option maxRecDepth 20000 in
theorem ggX4_giveFuel_X5_raise : GoodIn wsX4_giveFuel wsX5_raise := goodIn_r _ [17, 11, 12, 13, 30, 31, 32, 33] (by decide +kernel) (by decide +kernel)
set_option maxRecDepth 20000 in
theorem gX4_giveFuel_X5_raise : GoodIn wsX4_giveFuel (wsV RX4 126 RX5 yX5_raise wsX5_raise) := goodIn_app (goodIn_of _ (by decide +kernel)) ggX4_giveFuel_X5_raise
theorem dX4_giveFuel_0 : decode cX4_giveFuel 0 = .ok (.aload_n 0, 1) := by decide +kernel
theorem dX4_giveFuel_1 : decode cX4_giveFuel 1 = .ok (.getfield 29, 3) := by decide +kernel
theorem dX4_giveFuel_4 : decode cX4_giveFuel 4 = .ok (.iload_n 2, 1) := by decide +kernel
theorem dX4_giveFuel_5 : decode cX4_giveFuel 5 = .ok (.iconst 2, 1) := by decide +kernel
theorem dX4_giveFuel_6 : decode cX4_giveFuel 6 = .ok (.invokevirtual 96, 3) := by decide +kernel
theorem dX4_giveFuel_9 : decode cX4_giveFuel 9 = .ok (.aload_n 0, 1) := by decide +kernel
theorem dX4_giveFuel_10 : decode cX4_giveFuel 10 = .ok (.getfield 29, 3) := by decide +kernel
theorem dX4_giveFuel_13 : decode cX4_giveFuel 13 = .ok (.iload_n 2, 1) := by decide +kernel
theorem dX4_giveFuel_14 : decode cX4_giveFuel 14 = .ok (.iconst 3, 1) := by decide +kernel
theorem dX4_giveFuel_15 : decode cX4_giveFuel 15 = .ok (.invokevirtual 96, 3) := by decide +kernel
theorem dX4_giveFuel_18 : decode cX4_giveFuel 18 = .ok (.isub, 1) := by decide +kernel
theorem dX4_giveFuel_19 : decode cX4_giveFuel 19 = .ok (.istore_n 3, 1) := by decide +kernel
theorem dX4_giveFuel_20 : decode cX4_giveFuel 20 = .ok (.aload_n 0, 1) := by decide +kernel
theorem dX4_giveFuel_21 : decode cX4_giveFuel 21 = .ok (.getfield 29, 3) := by decide +kernel
theorem dX4_giveFuel_24 : decode cX4_giveFuel 24 = .ok (.iload_n 1, 1) := by decide +kernel
theorem dX4_giveFuel_25 : decode cX4_giveFuel 25 = .ok (.iconst 3, 1) := by decide +kernel
theorem dX4_giveFuel_26 : decode cX4_giveFuel 26 = .ok (.invokevirtual 96, 3) := by decide +kernel
theorem dX4_giveFuel_29 : decode cX4_giveFuel 29 = .ok (.iconst 2, 1) := by decide +kernel
theorem dX4_giveFuel_30 : decode cX4_giveFuel 30 = .ok (.idiv, 1) := by decide +kernel
theorem dX4_giveFuel_31 : decode cX4_giveFuel 31 = .ok (.bipush 10, 2) := by decide +kernel
theorem dX4_giveFuel_33 : decode cX4_giveFuel 33 = .ok (.invokestatic 106, 3) := by decide +kernel
theorem dX4_giveFuel_36 : decode cX4_giveFuel 36 = .ok (.istore 4, 2) := by decide +kernel
theorem dX4_giveFuel_38 : decode cX4_giveFuel 38 = .ok (.iload 4, 2) := by decide +kernel
theorem dX4_giveFuel_40 : decode cX4_giveFuel 40 = .ok (.iload_n 3, 1) := by decide +kernel
theorem dX4_giveFuel_41 : decode cX4_giveFuel 41 = .ok (.invokestatic 106, 3) := by decide +kernel
theorem dX4_giveFuel_44 : decode cX4_giveFuel 44 = .ok (.istore 5, 2) := by decide +kernel
theorem dX4_giveFuel_46 : decode cX4_giveFuel 46 = .ok (.aload_n 0, 1) := by decide +kernel
theorem dX4_giveFuel_47 : decode cX4_giveFuel 47 = .ok (.getfield 29, 3) := by decide +kernel
theorem dX4_giveFuel_50 : decode cX4_giveFuel 50 = .ok (.iload_n 1, 1) := by decide +kernel
theorem dX4_giveFuel_51 : decode cX4_giveFuel 51 = .ok (.iconst 3, 1) := by decide +kernel
theorem dX4_giveFuel_52 : decode cX4_giveFuel 52 = .ok (.iload 5, 2) := by decide +kernel
theorem dX4_giveFuel_54 : decode cX4_giveFuel 54 = .ok (.ineg, 1) := by decide +kernel
theorem dX4_giveFuel_55 : decode cX4_giveFuel 55 = .ok (.invokevirtual 126, 3) := by decide +kernel
theorem dX4_giveFuel_58 : decode cX4_giveFuel 58 = .ok (.aload_n 0, 1) := by decide +kernel
theorem dX4_giveFuel_59 : decode cX4_giveFuel 59 = .ok (.getfield 29, 3) := by decide +kernel
theorem dX4_giveFuel_62 : decode cX4_giveFuel 62 = .ok (.iload_n 2, 1) := by decide +kernel
theorem dX4_giveFuel_63 : decode cX4_giveFuel 63 = .ok (.iconst 3, 1) := by decide +kernel
theorem dX4_giveFuel_64 : decode cX4_giveFuel 64 = .ok (.iload 5, 2) := by decide +kernel
theorem dX4_giveFuel_66 : decode cX4_giveFuel 66 = .ok (.invokevirtual 126, 3) := by decide +kernel
theorem dX4_giveFuel_69 : decode cX4_giveFuel 69 = .ok (.return_, 1) := by decide +kernel
set_option maxRecDepth 20000 in
theorem ggX4_putInOrder_X2_size : GoodIn wsX4_putInOrder wsX2_size := goodIn_r _ [6, 7, 44, 45, 46] (by decide +kernel) (by decide +kernel)
set_option maxRecDepth 20000 in
theorem gX4_putInOrder_X2_size : GoodIn wsX4_putInOrder (wsV RX4 92 RX2 yX2_size wsX2_size) := goodIn_app (goodIn_of _ (by decide +kernel)) ggX4_putInOrder_X2_size
set_option maxRecDepth 20000 in
theorem ggX4_putInOrder_X2_get : GoodIn wsX4_putInOrder wsX2_get := goodIn_r _ [11, 12, 7, 13, 44, 45, 46] (by decide +kernel) (by decide +kernel)
set_option maxRecDepth 20000 in
theorem gX4_putInOrder_X2_get : GoodIn wsX4_putInOrder (wsV RX4 105 RX2 yX2_get wsX2_get) := goodIn_app (goodIn_of _ (by decide +kernel)) ggX4_putInOrder_X2_get
set_option maxRecDepth 20000 in
theorem ggX4_putInOrder_X4_comesAhead : GoodIn wsX4_putInOrder wsX4_comesAhead := goodIn_r _ [18, 19, 20, 21, 22, 23, 24, 25, 26, 27, 32, 33, 34, 35, 36, 37, 38, 39, 40, 41, 42, 43, 47, 48, 49, 50] (by decide +kernel) (by decide +kernel)
set_option maxRecDepth 20000 in
theorem gX4_putInOrder_X4_comesAhead : GoodIn wsX4_putInOrder (wsV RX4 177 RX4 yX4_comesAhead wsX4_comesAhead) := goodIn_app (goodIn_of _ (by decide +kernel)) ggX4_putInOrder_X4_comesAhead
set_option maxRecDepth 20000 in
theorem ggX4_putInOrder_X2_put : GoodIn wsX4_putInOrder wsX2_put := goodIn_r _ [31, 12, 7, 13, 44, 45, 46] (by decide +kernel) (by decide +kernel)
set_option maxRecDepth 20000 in
theorem gX4_putInOrder_X2_put : GoodIn wsX4_putInOrder (wsV RX4 181 RX2 yX2_put wsX2_put) := goodIn_app (goodIn_of _ (by decide +kernel)) ggX4_putInOrder_X2_put
theorem dX4_putInOrder_0 : decode cX4_putInOrder 0 = .ok (.iconst 1, 1) := by decide +kernel
theorem dX4_putInOrder_1 : decode cX4_putInOrder 1 = .ok (.istore_n 2, 1) := by decide +kernel
theorem dX4_putInOrder_2 : decode cX4_putInOrder 2 = .ok (.iload_n 2, 1) := by decide +kernel
theorem dX4_putInOrder_3 : decode cX4_putInOrder 3 = .ok (.aload_n 0, 1) := by decide +kernel
theorem dX4_putInOrder_4 : decode cX4_putInOrder 4 = .ok (.getfield 35, 3) := by decide +kernel
theorem dX4_putInOrder_7 : decode cX4_putInOrder 7 = .ok (.iload_n 1, 1) := by decide +kernel
theorem dX4_putInOrder_8 : decode cX4_putInOrder 8 = .ok (.invokevirtual 92, 3) := by decide +kernel
theorem dX4_putInOrder_11 : decode cX4_putInOrder 11 = .ok (.if_icmp .ge 86, 3) := by decide +kernel
theorem dX4_putInOrder_14 : decode cX4_putInOrder 14 = .ok (.aload_n 0, 1) := by decide +kernel
theorem dX4_putInOrder_15 : decode cX4_putInOrder 15 = .ok (.getfield 35, 3) := by decide +kernel
theorem dX4_putInOrder_18 : decode cX4_putInOrder 18 = .ok (.iload_n 1, 1) := by decide +kernel
theorem dX4_putInOrder_19 : decode cX4_putInOrder 19 = .ok (.iload_n 2, 1) := by decide +kernel
theorem dX4_putInOrder_20 : decode cX4_putInOrder 20 = .ok (.invokevirtual 105, 3) := by decide +kernel
theorem dX4_putInOrder_23 : decode cX4_putInOrder 23 = .ok (.istore_n 3, 1) := by decide +kernel
theorem dX4_putInOrder_24 : decode cX4_putInOrder 24 = .ok (.iload_n 2, 1) := by decide +kernel
theorem dX4_putInOrder_25 : decode cX4_putInOrder 25 = .ok (.istore 4, 2) := by decide +kernel
theorem dX4_putInOrder_27 : decode cX4_putInOrder 27 = .ok (.iload 4, 2) := by decide +kernel
theorem dX4_putInOrder_29 : decode cX4_putInOrder 29 = .ok (.ifCond .le 51, 3) := by decide +kernel
theorem dX4_putInOrder_32 : decode cX4_putInOrder 32 = .ok (.aload_n 0, 1) := by decide +kernel
theorem dX4_putInOrder_33 : decode cX4_putInOrder 33 = .ok (.iload_n 3, 1) := by decide +kernel
theorem dX4_putInOrder_34 : decode cX4_putInOrder 34 = .ok (.aload_n 0, 1) := by decide +kernel
theorem dX4_putInOrder_35 : decode cX4_putInOrder 35 = .ok (.getfield 35, 3) := by decide +kernel
theorem dX4_putInOrder_38 : decode cX4_putInOrder 38 = .ok (.iload_n 1, 1) := by decide +kernel
theorem dX4_putInOrder_39 : decode cX4_putInOrder 39 = .ok (.iload 4, 2) := by decide +kernel
theorem dX4_putInOrder_41 : decode cX4_putInOrder 41 = .ok (.iconst 1, 1) := by decide +kernel
theorem dX4_putInOrder_42 : decode cX4_putInOrder 42 = .ok (.isub, 1) := by decide +kernel
theorem dX4_putInOrder_43 : decode cX4_putInOrder 43 = .ok (.invokevirtual 105, 3) := by decide +kernel
theorem dX4_putInOrder_46 : decode cX4_putInOrder 46 = .ok (.invokevirtual 177, 3) := by decide +kernel
theorem dX4_putInOrder_49 : decode cX4_putInOrder 49 = .ok (.ifCond .eq 31, 3) := by decide +kernel
theorem dX4_putInOrder_52 : decode cX4_putInOrder 52 = .ok (.aload_n 0, 1) := by decide +kernel
theorem dX4_putInOrder_53 : decode cX4_putInOrder 53 = .ok (.getfield 35, 3) := by decide +kernel
theorem dX4_putInOrder_56 : decode cX4_putInOrder 56 = .ok (.iload_n 1, 1) := by decide +kernel
theorem dX4_putInOrder_57 : decode cX4_putInOrder 57 = .ok (.iload 4, 2) := by decide +kernel
theorem dX4_putInOrder_59 : decode cX4_putInOrder 59 = .ok (.aload_n 0, 1) := by decide +kernel
theorem dX4_putInOrder_60 : decode cX4_putInOrder 60 = .ok (.getfield 35, 3) := by decide +kernel
theorem dX4_putInOrder_63 : decode cX4_putInOrder 63 = .ok (.iload_n 1, 1) := by decide +kernel
theorem dX4_putInOrder_64 : decode cX4_putInOrder 64 = .ok (.iload 4, 2) := by decide +kernel
theorem dX4_putInOrder_66 : decode cX4_putInOrder 66 = .ok (.iconst 1, 1) := by decide +kernel
theorem dX4_putInOrder_67 : decode cX4_putInOrder 67 = .ok (.isub, 1) := by decide +kernel
theorem dX4_putInOrder_68 : decode cX4_putInOrder 68 = .ok (.invokevirtual 105, 3) := by decide +kernel
theorem dX4_putInOrder_71 : decode cX4_putInOrder 71 = .ok (.invokevirtual 181, 3) := by decide +kernel
theorem dX4_putInOrder_74 : decode cX4_putInOrder 74 = .ok (.iinc 4 (-1), 3) := by decide +kernel
theorem dX4_putInOrder_77 : decode cX4_putInOrder 77 = .ok (.goto (-50), 3) := by decide +kernel
theorem dX4_putInOrder_80 : decode cX4_putInOrder 80 = .ok (.aload_n 0, 1) := by decide +kernel
theorem dX4_putInOrder_81 : decode cX4_putInOrder 81 = .ok (.getfield 35, 3) := by decide +kernel
theorem dX4_putInOrder_84 : decode cX4_putInOrder 84 = .ok (.iload_n 1, 1) := by decide +kernel
theorem dX4_putInOrder_85 : decode cX4_putInOrder 85 = .ok (.iload 4, 2) := by decide +kernel
theorem dX4_putInOrder_87 : decode cX4_putInOrder 87 = .ok (.iload_n 3, 1) := by decide +kernel
theorem dX4_putInOrder_88 : decode cX4_putInOrder 88 = .ok (.invokevirtual 181, 3) := by decide +kernel
theorem dX4_putInOrder_91 : decode cX4_putInOrder 91 = .ok (.iinc 2 1, 3) := by decide +kernel
theorem dX4_putInOrder_94 : decode cX4_putInOrder 94 = .ok (.goto (-92), 3) := by decide +kernel
theorem dX4_putInOrder_97 : decode cX4_putInOrder 97 = .ok (.return_, 1) := by decide +kernel
set_option maxRecDepth 20000 in
theorem ggX4_comesAhead_X5_get : GoodIn wsX4_comesAhead wsX5_get := goodIn_r _ [6, 7, 8, 9, 22, 23, 24, 25] (by decide +kernel) (by decide +kernel)
set_option maxRecDepth 20000 in
theorem gX4_comesAhead_X5_get : GoodIn wsX4_comesAhead (wsV RX4 96 RX5 yX5_get wsX5_get) := goodIn_app (goodIn_of _ (by decide +kernel)) ggX4_comesAhead_X5_get
theorem dX4_comesAhead_0 : decode cX4_comesAhead 0 = .ok (.aload_n 0, 1) := by decide +kernel
theorem dX4_comesAhead_1 : decode cX4_comesAhead 1 = .ok (.getfield 29, 3) := by decide +kernel
theorem dX4_comesAhead_4 : decode cX4_comesAhead 4 = .ok (.iload_n 1, 1) := by decide +kernel
theorem dX4_comesAhead_5 : decode cX4_comesAhead 5 = .ok (.iconst 0, 1) := by decide +kernel
theorem dX4_comesAhead_6 : decode cX4_comesAhead 6 = .ok (.invokevirtual 96, 3) := by decide +kernel
theorem dX4_comesAhead_9 : decode cX4_comesAhead 9 = .ok (.istore_n 3, 1) := by decide +kernel
theorem dX4_comesAhead_10 : decode cX4_comesAhead 10 = .ok (.aload_n 0, 1) := by decide +kernel
theorem dX4_comesAhead_11 : decode cX4_comesAhead 11 = .ok (.getfield 29, 3) := by decide +kernel
theorem dX4_comesAhead_14 : decode cX4_comesAhead 14 = .ok (.iload_n 2, 1) := by decide +kernel
theorem dX4_comesAhead_15 : decode cX4_comesAhead 15 = .ok (.iconst 0, 1) := by decide +kernel
theorem dX4_comesAhead_16 : decode cX4_comesAhead 16 = .ok (.invokevirtual 96, 3) := by decide +kernel
theorem dX4_comesAhead_19 : decode cX4_comesAhead 19 = .ok (.istore 4, 2) := by decide +kernel
theorem dX4_comesAhead_21 : decode cX4_comesAhead 21 = .ok (.iload_n 3, 1) := by decide +kernel
theorem dX4_comesAhead_22 : decode cX4_comesAhead 22 = .ok (.iload 4, 2) := by decide +kernel
theorem dX4_comesAhead_24 : decode cX4_comesAhead 24 = .ok (.if_icmp .lt 14, 3) := by decide +kernel
theorem dX4_comesAhead_27 : decode cX4_comesAhead 27 = .ok (.iload_n 3, 1) := by decide +kernel
theorem dX4_comesAhead_28 : decode cX4_comesAhead 28 = .ok (.iload 4, 2) := by decide +kernel
theorem dX4_comesAhead_30 : decode cX4_comesAhead 30 = .ok (.if_icmp .ne 12, 3) := by decide +kernel
theorem dX4_comesAhead_33 : decode cX4_comesAhead 33 = .ok (.iload_n 1, 1) := by decide +kernel
theorem dX4_comesAhead_34 : decode cX4_comesAhead 34 = .ok (.iload_n 2, 1) := by decide +kernel
theorem dX4_comesAhead_35 : decode cX4_comesAhead 35 = .ok (.if_icmp .ge 7, 3) := by decide +kernel
theorem dX4_comesAhead_38 : decode cX4_comesAhead 38 = .ok (.iconst 1, 1) := by decide +kernel
theorem dX4_comesAhead_39 : decode cX4_comesAhead 39 = .ok (.goto 4, 3) := by decide +kernel
theorem dX4_comesAhead_42 : decode cX4_comesAhead 42 = .ok (.iconst 0, 1) := by decide +kernel
theorem dX4_comesAhead_43 : decode cX4_comesAhead 43 = .ok (.ireturn, 1) := by decide +kernel
set_option maxRecDepth 20000 in
theorem ggX4_hoursToEnd_X4_isAtEnd : GoodIn wsX4_hoursToEnd wsX4_isAtEnd := goodIn_r _ [6, 7, 8, 9, 10, 11, 12, 13, 14, 15, 16, 148, 149, 150, 151, 152, 153, 154, 155, 156, 157, 158, 159, 160, 161, 162, 163] (by decide +kernel) (by decide +kernel)
set_option maxRecDepth 20000 in
theorem gX4_hoursToEnd_X4_isAtEnd : GoodIn wsX4_hoursToEnd (wsV RX4 119 RX4 yX4_isAtEnd wsX4_isAtEnd) := goodIn_app (goodIn_of _ (by decide +kernel)) ggX4_hoursToEnd_X4_isAtEnd
set_option maxRecDepth 20000 in
theorem ggX4_hoursToEnd_X4_letHourGoBy : GoodIn wsX4_hoursToEnd wsX4_letHourGoBy := goodIn_r _ [20, 1, 7, 21, 22, 23, 24, 25, 12, 26, 15, 27, 28, 29, 30, 31, 32, 2, 3, 4, 5, 6, 8, 9, 10, 11, 13, 14, 16, 33, 34, 35, 36, 37, 38, 39, 40, 41, 42, 43, 44, 45, 46, 47, 48, 49, 50, 51, 52, 53, 54, 55, 56, 57, 58, 59, 60, 61, 62, 63, 64, 65, 66, 67, 68, 69, 70, 71, 72, 73, 74, 75, 76, 77, 78, 79, 80, 81, 82, 83, 84, 85, 86, 87, 88, 89, 90, 91, 92, 93, 94, 95, 96, 97, 98, 99, 100, 101, 102, 103, 104, 105, 106, 107, 108, 109, 110, 111, 112, 113, 114, 115, 116, 117, 118, 119, 120, 121, 122, 123, 124, 125, 126, 127, 128, 129, 130, 131, 132, 133, 134, 135, 136, 137, 138, 139, 140, 141, 142, 143, 144, 145, 146, 147, 148, 149, 150, 151, 152, 153, 154, 155, 156, 157, 158, 159, 160, 161, 162, 163, 164, 165, 166] (by decide +kernel) (by decide +kernel)
set_option maxRecDepth 20000 in
theorem gX4_hoursToEnd_X4_letHourGoBy : GoodIn wsX4_hoursToEnd (wsV RX4 116 RX4 yX4_letHourGoBy wsX4_letHourGoBy) := goodIn_app (goodIn_of _ (by decide +kernel)) ggX4_hoursToEnd_X4_letHourGoBy
theorem dX4_hoursToEnd_0 : decode cX4_hoursToEnd 0 = .ok (.iconst 0, 1) := by decide +kernel
theorem dX4_hoursToEnd_1 : decode cX4_hoursToEnd 1 = .ok (.istore_n 2, 1) := by decide +kernel
theorem dX4_hoursToEnd_2 : decode cX4_hoursToEnd 2 = .ok (.iload_n 2, 1) := by decide +kernel
theorem dX4_hoursToEnd_3 : decode cX4_hoursToEnd 3 = .ok (.sipush 300, 3) := by decide +kernel
theorem dX4_hoursToEnd_6 : decode cX4_hoursToEnd 6 = .ok (.if_icmp .gt 30, 3) := by decide +kernel
theorem dX4_hoursToEnd_9 : decode cX4_hoursToEnd 9 = .ok (.aload_n 0, 1) := by decide +kernel
theorem dX4_hoursToEnd_10 : decode cX4_hoursToEnd 10 = .ok (.getfield 66, 3) := by decide +kernel
theorem dX4_hoursToEnd_13 : decode cX4_hoursToEnd 13 = .ok (.ifCond .eq 23, 3) := by decide +kernel
theorem dX4_hoursToEnd_16 : decode cX4_hoursToEnd 16 = .ok (.aload_n 0, 1) := by decide +kernel
theorem dX4_hoursToEnd_17 : decode cX4_hoursToEnd 17 = .ok (.iload_n 1, 1) := by decide +kernel
theorem dX4_hoursToEnd_18 : decode cX4_hoursToEnd 18 = .ok (.invokevirtual 119, 3) := by decide +kernel
theorem dX4_hoursToEnd_21 : decode cX4_hoursToEnd 21 = .ok (.ifCond .eq 5, 3) := by decide +kernel
theorem dX4_hoursToEnd_24 : decode cX4_hoursToEnd 24 = .ok (.iload_n 2, 1) := by decide +kernel
theorem dX4_hoursToEnd_25 : decode cX4_hoursToEnd 25 = .ok (.ireturn, 1) := by decide +kernel
theorem dX4_hoursToEnd_26 : decode cX4_hoursToEnd 26 = .ok (.aload_n 0, 1) := by decide +kernel
theorem dX4_hoursToEnd_27 : decode cX4_hoursToEnd 27 = .ok (.invokevirtual 116, 3) := by decide +kernel
theorem dX4_hoursToEnd_30 : decode cX4_hoursToEnd 30 = .ok (.iinc 2 1, 3) := by decide +kernel
theorem dX4_hoursToEnd_33 : decode cX4_hoursToEnd 33 = .ok (.goto (-31), 3) := by decide +kernel
theorem dX4_hoursToEnd_36 : decode cX4_hoursToEnd 36 = .ok (.bipush (-9), 2) := by decide +kernel
theorem dX4_hoursToEnd_38 : decode cX4_hoursToEnd 38 = .ok (.ireturn, 1) := by decide +kernel
set_option maxRecDepth 20000 in
theorem ggX4_firstLeftBy_X4_letHourGoBy : GoodIn wsX4_firstLeftBy wsX4_letHourGoBy := goodIn_r _ [8, 2, 9, 10, 11, 12, 13, 14, 15, 16, 17, 18, 19, 20, 21, 22, 23, 24, 25, 26, 7, 27, 28, 29, 30, 31, 32, 33, 34, 35, 36, 37, 38, 39, 40, 41, 42, 43, 44, 45, 46, 47, 48, 49, 50, 51, 52, 53, 54, 55, 56, 57, 58, 59, 60, 61, 62, 63, 64, 65, 66, 67, 68, 69, 70, 71, 72, 73, 74, 75, 76, 77, 78, 79, 80, 81, 82, 83, 84, 85, 86, 87, 88, 89, 90, 91, 92, 93, 94, 95, 96, 97, 98, 99, 100, 101, 102, 103, 104, 105, 106, 107, 108, 109, 110, 111, 112, 113, 114, 1, 3, 115, 116, 117, 118, 119, 120, 121, 122, 123, 124, 125, 126, 127, 128, 129, 130, 131, 132, 133, 134, 135, 136, 137, 138, 139, 140, 141, 142, 143, 144, 145, 146, 147, 148, 149, 150, 151, 152, 153, 154, 155, 156, 157, 158, 159, 160, 161, 162, 163, 164, 165, 166] (by decide +kernel) (by decide +kernel)
set_option maxRecDepth 20000 in
theorem gX4_firstLeftBy_X4_letHourGoBy : GoodIn wsX4_firstLeftBy (wsV RX4 116 RX4 yX4_letHourGoBy wsX4_letHourGoBy) := goodIn_app (goodIn_of _ (by decide +kernel)) ggX4_firstLeftBy_X4_letHourGoBy
theorem dX4_firstLeftBy_0 : decode cX4_firstLeftBy 0 = .ok (.aload_n 0, 1) := by decide +kernel
theorem dX4_firstLeftBy_1 : decode cX4_firstLeftBy 1 = .ok (.iload_n 1, 1) := by decide +kernel
theorem dX4_firstLeftBy_2 : decode cX4_firstLeftBy 2 = .ok (.putfield 42, 3) := by decide +kernel
theorem dX4_firstLeftBy_5 : decode cX4_firstLeftBy 5 = .ok (.iconst 0, 1) := by decide +kernel
theorem dX4_firstLeftBy_6 : decode cX4_firstLeftBy 6 = .ok (.istore_n 2, 1) := by decide +kernel
theorem dX4_firstLeftBy_7 : decode cX4_firstLeftBy 7 = .ok (.iload_n 2, 1) := by decide +kernel
theorem dX4_firstLeftBy_8 : decode cX4_firstLeftBy 8 = .ok (.sipush 300, 3) := by decide +kernel
theorem dX4_firstLeftBy_11 : decode cX4_firstLeftBy 11 = .ok (.if_icmp .ge 29, 3) := by decide +kernel
theorem dX4_firstLeftBy_14 : decode cX4_firstLeftBy 14 = .ok (.aload_n 0, 1) := by decide +kernel
theorem dX4_firstLeftBy_15 : decode cX4_firstLeftBy 15 = .ok (.getfield 66, 3) := by decide +kernel
theorem dX4_firstLeftBy_18 : decode cX4_firstLeftBy 18 = .ok (.ifCond .eq 22, 3) := by decide +kernel
theorem dX4_firstLeftBy_21 : decode cX4_firstLeftBy 21 = .ok (.aload_n 0, 1) := by decide +kernel
theorem dX4_firstLeftBy_22 : decode cX4_firstLeftBy 22 = .ok (.getfield 46, 3) := by decide +kernel
theorem dX4_firstLeftBy_25 : decode cX4_firstLeftBy 25 = .ok (.bipush (-9), 2) := by decide +kernel
theorem dX4_firstLeftBy_27 : decode cX4_firstLeftBy 27 = .ok (.if_icmp .ne 13, 3) := by decide +kernel
theorem dX4_firstLeftBy_30 : decode cX4_firstLeftBy 30 = .ok (.aload_n 0, 1) := by decide +kernel
theorem dX4_firstLeftBy_31 : decode cX4_firstLeftBy 31 = .ok (.invokevirtual 116, 3) := by decide +kernel
theorem dX4_firstLeftBy_34 : decode cX4_firstLeftBy 34 = .ok (.iinc 2 1, 3) := by decide +kernel
theorem dX4_firstLeftBy_37 : decode cX4_firstLeftBy 37 = .ok (.goto (-30), 3) := by decide +kernel
theorem dX4_firstLeftBy_40 : decode cX4_firstLeftBy 40 = .ok (.aload_n 0, 1) := by decide +kernel
theorem dX4_firstLeftBy_41 : decode cX4_firstLeftBy 41 = .ok (.getfield 46, 3) := by decide +kernel
theorem dX4_firstLeftBy_44 : decode cX4_firstLeftBy 44 = .ok (.ireturn, 1) := by decide +kernel
set_option maxRecDepth 20000 in
theorem ggX4_allArrive_X4_letHourGoBy : GoodIn wsX4_allArrive wsX4_letHourGoBy := goodIn_r _ [7, 1, 8, 9, 10, 11, 12, 13, 14, 15, 16, 17, 18, 19, 20, 21, 22, 23, 24, 25, 6, 26, 27, 28, 29, 30, 31, 32, 33, 34, 35, 36, 37, 38, 39, 40, 41, 42, 43, 44, 45, 46, 2, 47, 48, 49, 50, 51, 52, 53, 54, 55, 56, 57, 58, 59, 60, 61, 62, 63, 64, 65, 66, 67, 68, 69, 70, 71, 72, 73, 74, 75, 76, 77, 78, 79, 80, 81, 82, 83, 84, 85, 86, 87, 88, 89, 90, 91, 92, 93, 94, 95, 96, 97, 98, 99, 100, 101, 102, 103, 104, 105, 106, 107, 108, 109, 110, 111, 112, 113, 114, 115, 116, 117, 118, 119, 120, 121, 122, 123, 124, 125, 126, 127, 128, 129, 130, 131, 132, 133, 134, 135, 136, 137, 138, 139, 140, 141, 142, 143, 144, 145, 146, 147, 152, 153, 154, 155, 156, 157, 158, 159, 160, 161, 162, 163, 164, 165, 166, 167, 168, 169, 170] (by decide +kernel) (by decide +kernel)
set_option maxRecDepth 20000 in
theorem gX4_allArrive_X4_letHourGoBy : GoodIn wsX4_allArrive (wsV RX4 116 RX4 yX4_letHourGoBy wsX4_letHourGoBy) := goodIn_app (goodIn_of _ (by decide +kernel)) ggX4_allArrive_X4_letHourGoBy
set_option maxRecDepth 20000 in
theorem ggX4_allArrive_X4_howMany : GoodIn wsX4_allArrive wsX4_howMany := goodIn_r _ [151, 2, 11, 12, 13, 14, 15, 16, 28, 29, 30, 31, 32, 33, 152, 153, 154, 155, 156, 157, 158, 159, 160, 161, 162, 163, 164, 165, 166, 167] (by decide +kernel) (by decide +kernel)
set_option maxRecDepth 20000 in
theorem gX4_allArrive_X4_howMany : GoodIn wsX4_allArrive (wsV RX4 182 RX4 yX4_howMany wsX4_howMany) := goodIn_app (goodIn_of _ (by decide +kernel)) ggX4_allArrive_X4_howMany
set_option maxRecDepth 20000 in
theorem ggX4_allArrive_X5_count : GoodIn wsX4_allArrive wsX5_count := goodIn_r _ [15, 16, 164, 165, 166, 167] (by decide +kernel) (by decide +kernel)
set_option maxRecDepth 20000 in
theorem gX4_allArrive_X5_count : GoodIn wsX4_allArrive (wsV RX4 109 RX5 yX5_count wsX5_count) := goodIn_app (goodIn_of _ (by decide +kernel)) ggX4_allArrive_X5_count
theorem dX4_allArrive_0 : decode cX4_allArrive 0 = .ok (.iconst 0, 1) := by decide +kernel
theorem dX4_allArrive_1 : decode cX4_allArrive 1 = .ok (.istore_n 1, 1) := by decide +kernel
theorem dX4_allArrive_2 : decode cX4_allArrive 2 = .ok (.iload_n 1, 1) := by decide +kernel
theorem dX4_allArrive_3 : decode cX4_allArrive 3 = .ok (.sipush 300, 3) := by decide +kernel
theorem dX4_allArrive_6 : decode cX4_allArrive 6 = .ok (.if_icmp .ge 20, 3) := by decide +kernel
theorem dX4_allArrive_9 : decode cX4_allArrive 9 = .ok (.aload_n 0, 1) := by decide +kernel
theorem dX4_allArrive_10 : decode cX4_allArrive 10 = .ok (.getfield 66, 3) := by decide +kernel
theorem dX4_allArrive_13 : decode cX4_allArrive 13 = .ok (.ifCond .eq 13, 3) := by decide +kernel
theorem dX4_allArrive_16 : decode cX4_allArrive 16 = .ok (.aload_n 0, 1) := by decide +kernel
theorem dX4_allArrive_17 : decode cX4_allArrive 17 = .ok (.invokevirtual 116, 3) := by decide +kernel
theorem dX4_allArrive_20 : decode cX4_allArrive 20 = .ok (.iinc 1 1, 3) := by decide +kernel
theorem dX4_allArrive_23 : decode cX4_allArrive 23 = .ok (.goto (-21), 3) := by decide +kernel
theorem dX4_allArrive_26 : decode cX4_allArrive 26 = .ok (.aload_n 0, 1) := by decide +kernel
theorem dX4_allArrive_27 : decode cX4_allArrive 27 = .ok (.iconst 2, 1) := by decide +kernel
theorem dX4_allArrive_28 : decode cX4_allArrive 28 = .ok (.invokevirtual 182, 3) := by decide +kernel
theorem dX4_allArrive_31 : decode cX4_allArrive 31 = .ok (.aload_n 0, 1) := by decide +kernel
theorem dX4_allArrive_32 : decode cX4_allArrive 32 = .ok (.getfield 29, 3) := by decide +kernel
theorem dX4_allArrive_35 : decode cX4_allArrive 35 = .ok (.invokevirtual 109, 3) := by decide +kernel
theorem dX4_allArrive_38 : decode cX4_allArrive 38 = .ok (.if_icmp .ne 7, 3) := by decide +kernel
theorem dX4_allArrive_41 : decode cX4_allArrive 41 = .ok (.iconst 1, 1) := by decide +kernel
theorem dX4_allArrive_42 : decode cX4_allArrive 42 = .ok (.goto 4, 3) := by decide +kernel
theorem dX4_allArrive_45 : decode cX4_allArrive 45 = .ok (.iconst 0, 1) := by decide +kernel
theorem dX4_allArrive_46 : decode cX4_allArrive 46 = .ok (.ireturn, 1) := by decide +kernel
set_option maxRecDepth 20000 in
theorem ggX4_obeys_X4_letGoBy : GoodIn wsX4_obeys wsX4_letGoBy := goodIn_r _ [10, 11, 12, 13, 14, 15, 16, 9, 17, 18, 1, 19, 20, 21, 22, 23, 24, 25, 26, 27, 28, 29, 30, 31, 32, 33, 34, 35, 36, 37, 38, 39, 40, 41, 42, 43, 44, 45, 46, 47, 48, 49, 50, 51, 52, 53, 54, 55, 56, 2, 57, 58, 59, 60, 61, 62, 63, 64, 65, 66, 67, 68, 69, 70, 71, 72, 73, 74, 75, 76, 77, 78, 79, 3, 80, 81, 82, 83, 84, 85, 86, 87, 88, 89, 90, 4, 5, 91, 92, 93, 94, 95, 96, 97, 98, 99, 100, 101, 102, 103, 104, 105, 106, 107, 108, 109, 110, 111, 112, 113, 114, 115, 116, 117, 118, 119, 120, 121, 122, 123, 124, 125, 126, 127, 128, 129, 130, 131, 132, 133, 134, 135, 136, 137, 138, 139, 140, 141, 142, 143, 144, 145, 146, 147, 148, 149, 150, 151, 152, 153, 154, 171, 172, 173, 174, 175, 176, 177, 178, 179, 180, 181, 182, 183, 184, 185, 186, 187, 188, 189] (by decide +kernel) (by decide +kernel)
set_option maxRecDepth 20000 in
theorem gX4_obeys_X4_letGoBy : GoodIn wsX4_obeys (wsV RX4 185 RX4 yX4_letGoBy wsX4_letGoBy) := goodIn_app (goodIn_of _ (by decide +kernel)) ggX4_obeys_X4_letGoBy
set_option maxRecDepth 20000 in
theorem ggX4_obeys_X4_obeysHold : GoodIn wsX4_obeys wsX4_obeysHold := goodIn_r _ [158, 1, 159, 160, 161, 24, 162, 26, 11, 12, 13, 112, 113, 114, 115, 42, 43, 171, 172, 173, 174, 175, 176, 177, 178, 179, 180, 181, 182, 183, 184, 185, 186] (by decide +kernel) (by decide +kernel)
set_option maxRecDepth 20000 in
theorem gX4_obeys_X4_obeysHold : GoodIn wsX4_obeys (wsV RX4 188 RX4 yX4_obeysHold wsX4_obeysHold) := goodIn_app (goodIn_of _ (by decide +kernel)) ggX4_obeys_X4_obeysHold
set_option maxRecDepth 20000 in
theorem ggX4_obeys_X4_obeysSupply : GoodIn wsX4_obeys wsX4_obeysSupply := goodIn_r _ [166, 56, 159, 160, 161, 24, 162, 26, 11, 12, 13, 38, 39, 40, 41, 42, 43, 48, 49, 50, 51, 171, 172, 173, 174, 175, 176, 177, 178, 179, 180, 181, 182, 183, 184, 185, 186] (by decide +kernel) (by decide +kernel)
set_option maxRecDepth 20000 in
theorem gX4_obeys_X4_obeysSupply : GoodIn wsX4_obeys (wsV RX4 191 RX4 yX4_obeysSupply wsX4_obeysSupply) := goodIn_app (goodIn_of _ (by decide +kernel)) ggX4_obeys_X4_obeysSupply
set_option maxRecDepth 20000 in
theorem ggX4_obeys_X5_has : GoodIn wsX4_obeys wsX5_has := goodIn_r _ [162, 26, 183, 184, 185, 186] (by decide +kernel) (by decide +kernel)
set_option maxRecDepth 20000 in
theorem gX4_obeys_X5_has : GoodIn wsX4_obeys (wsV RX4 88 RX5 yX5_has wsX5_has) := goodIn_app (goodIn_of _ (by decide +kernel)) ggX4_obeys_X5_has
set_option maxRecDepth 20000 in
theorem ggX4_obeys_X5_get : GoodIn wsX4_obeys wsX5_get := goodIn_r _ [41, 42, 26, 43, 183, 184, 185, 186] (by decide +kernel) (by decide +kernel)
set_option maxRecDepth 20000 in
theorem gX4_obeys_X5_get : GoodIn wsX4_obeys (wsV RX4 96 RX5 yX5_get wsX5_get) := goodIn_app (goodIn_of _ (by decide +kernel)) ggX4_obeys_X5_get
set_option maxRecDepth 20000 in
theorem ggX4_obeys_X4_closedFor : GoodIn wsX4_obeys wsX4_closedFor := goodIn_r _ [83, 3, 20, 84, 85, 59, 86, 38, 39, 40, 24, 41, 42, 26, 43, 171, 172, 173, 174, 175, 176, 177, 178, 179, 180, 181, 182, 183, 184, 185, 186] (by decide +kernel) (by decide +kernel)
set_option maxRecDepth 20000 in
theorem gX4_obeys_X4_closedFor : GoodIn wsX4_obeys (wsV RX4 156 RX4 yX4_closedFor wsX4_closedFor) := goodIn_app (goodIn_of _ (by decide +kernel)) ggX4_obeys_X4_closedFor
set_option maxRecDepth 20000 in
theorem ggX4_obeys_X2_size : GoodIn wsX4_obeys wsX2_size := goodIn_r _ [31, 32, 187, 188, 189] (by decide +kernel) (by decide +kernel)
set_option maxRecDepth 20000 in
theorem gX4_obeys_X2_size : GoodIn wsX4_obeys (wsV RX4 92 RX2 yX2_size wsX2_size) := goodIn_app (goodIn_of _ (by decide +kernel)) ggX4_obeys_X2_size
set_option maxRecDepth 20000 in
theorem ggX4_obeys_X4_howMany : GoodIn wsX4_obeys wsX4_howMany := goodIn_r _ [170, 2, 21, 22, 23, 24, 25, 26, 38, 39, 40, 41, 42, 43, 171, 172, 173, 174, 175, 176, 177, 178, 179, 180, 181, 182, 183, 184, 185, 186] (by decide +kernel) (by decide +kernel)
set_option maxRecDepth 20000 in
theorem gX4_obeys_X4_howMany : GoodIn wsX4_obeys (wsV RX4 182 RX4 yX4_howMany wsX4_howMany) := goodIn_app (goodIn_of _ (by decide +kernel)) ggX4_obeys_X4_howMany
theorem dX4_obeys_0 : decode cX4_obeys 0 = .ok (.iload_n 1, 1) := by decide +kernel
theorem dX4_obeys_1 : decode cX4_obeys 1 = .ok (.sipush 1000, 3) := by decide +kernel
theorem dX4_obeys_4 : decode cX4_obeys 4 = .ok (.idiv, 1) := by decide +kernel
theorem dX4_obeys_5 : decode cX4_obeys 5 = .ok (.bipush 10, 2) := by decide +kernel
theorem dX4_obeys_7 : decode cX4_obeys 7 = .ok (.irem, 1) := by decide +kernel
theorem dX4_obeys_8 : decode cX4_obeys 8 = .ok (.istore_n 2, 1) := by decide +kernel
theorem dX4_obeys_9 : decode cX4_obeys 9 = .ok (.iload_n 1, 1) := by decide +kernel
theorem dX4_obeys_10 : decode cX4_obeys 10 = .ok (.bipush 100, 2) := by decide +kernel
theorem dX4_obeys_12 : decode cX4_obeys 12 = .ok (.idiv, 1) := by decide +kernel
theorem dX4_obeys_13 : decode cX4_obeys 13 = .ok (.bipush 10, 2) := by decide +kernel
theorem dX4_obeys_15 : decode cX4_obeys 15 = .ok (.irem, 1) := by decide +kernel
theorem dX4_obeys_16 : decode cX4_obeys 16 = .ok (.istore_n 3, 1) := by decide +kernel
theorem dX4_obeys_17 : decode cX4_obeys 17 = .ok (.iload_n 1, 1) := by decide +kernel
theorem dX4_obeys_18 : decode cX4_obeys 18 = .ok (.bipush 10, 2) := by decide +kernel
theorem dX4_obeys_20 : decode cX4_obeys 20 = .ok (.idiv, 1) := by decide +kernel
theorem dX4_obeys_21 : decode cX4_obeys 21 = .ok (.bipush 10, 2) := by decide +kernel
theorem dX4_obeys_23 : decode cX4_obeys 23 = .ok (.irem, 1) := by decide +kernel
theorem dX4_obeys_24 : decode cX4_obeys 24 = .ok (.istore 4, 2) := by decide +kernel
theorem dX4_obeys_26 : decode cX4_obeys 26 = .ok (.iload_n 1, 1) := by decide +kernel
theorem dX4_obeys_27 : decode cX4_obeys 27 = .ok (.bipush 10, 2) := by decide +kernel
theorem dX4_obeys_29 : decode cX4_obeys 29 = .ok (.irem, 1) := by decide +kernel
theorem dX4_obeys_30 : decode cX4_obeys 30 = .ok (.istore 5, 2) := by decide +kernel
theorem dX4_obeys_32 : decode cX4_obeys 32 = .ok (.iload_n 1, 1) := by decide +kernel
theorem dX4_obeys_33 : decode cX4_obeys 33 = .ok (.bipush 100, 2) := by decide +kernel
theorem dX4_obeys_35 : decode cX4_obeys 35 = .ok (.irem, 1) := by decide +kernel
theorem dX4_obeys_36 : decode cX4_obeys 36 = .ok (.istore 6, 2) := by decide +kernel
theorem dX4_obeys_38 : decode cX4_obeys 38 = .ok (.iload_n 1, 1) := by decide +kernel
theorem dX4_obeys_39 : decode cX4_obeys 39 = .ok (.sipush 1000, 3) := by decide +kernel
theorem dX4_obeys_42 : decode cX4_obeys 42 = .ok (.irem, 1) := by decide +kernel
theorem dX4_obeys_43 : decode cX4_obeys 43 = .ok (.istore 7, 2) := by decide +kernel
theorem dX4_obeys_45 : decode cX4_obeys 45 = .ok (.iload_n 1, 1) := by decide +kernel
theorem dX4_obeys_46 : decode cX4_obeys 46 = .ok (.bipush 100, 2) := by decide +kernel
theorem dX4_obeys_48 : decode cX4_obeys 48 = .ok (.idiv, 1) := by decide +kernel
theorem dX4_obeys_49 : decode cX4_obeys 49 = .ok (.bipush 100, 2) := by decide +kernel
theorem dX4_obeys_51 : decode cX4_obeys 51 = .ok (.irem, 1) := by decide +kernel
theorem dX4_obeys_52 : decode cX4_obeys 52 = .ok (.istore 8, 2) := by decide +kernel
theorem dX4_obeys_54 : decode cX4_obeys 54 = .ok (.iload_n 1, 1) := by decide +kernel
theorem dX4_obeys_55 : decode cX4_obeys 55 = .ok (.sipush 10000, 3) := by decide +kernel
theorem dX4_obeys_58 : decode cX4_obeys 58 = .ok (.idiv, 1) := by decide +kernel
theorem dX4_obeys_59 : decode cX4_obeys 59 = .ok (.tableswitch 323 1 9 #[49, 72, 92, 100, 135, 168, 206, 260, 299], 49) := by decide +kernel
theorem dX4_obeys_108 : decode cX4_obeys 108 = .ok (.iload_n 2, 1) := by decide +kernel
theorem dX4_obeys_109 : decode cX4_obeys 109 = .ok (.ifCond .ne 20, 3) := by decide +kernel
theorem dX4_obeys_112 : decode cX4_obeys 112 = .ok (.iload_n 3, 1) := by decide +kernel
theorem dX4_obeys_113 : decode cX4_obeys 113 = .ok (.ifCond .ne 16, 3) := by decide +kernel
theorem dX4_obeys_116 : decode cX4_obeys 116 = .ok (.aload_n 0, 1) := by decide +kernel
theorem dX4_obeys_117 : decode cX4_obeys 117 = .ok (.iload 6, 2) := by decide +kernel
theorem dX4_obeys_119 : decode cX4_obeys 119 = .ok (.invokevirtual 185, 3) := by decide +kernel
theorem dX4_obeys_122 : decode cX4_obeys 122 = .ok (.ifCond .eq 7, 3) := by decide +kernel
theorem dX4_obeys_125 : decode cX4_obeys 125 = .ok (.iconst 1, 1) := by decide +kernel
theorem dX4_obeys_126 : decode cX4_obeys 126 = .ok (.goto 4, 3) := by decide +kernel
theorem dX4_obeys_129 : decode cX4_obeys 129 = .ok (.iconst 0, 1) := by decide +kernel
theorem dX4_obeys_130 : decode cX4_obeys 130 = .ok (.ireturn, 1) := by decide +kernel
theorem dX4_obeys_131 : decode cX4_obeys 131 = .ok (.iload_n 3, 1) := by decide +kernel
theorem dX4_obeys_132 : decode cX4_obeys 132 = .ok (.ifCond .ne 17, 3) := by decide +kernel
theorem dX4_obeys_135 : decode cX4_obeys 135 = .ok (.aload_n 0, 1) := by decide +kernel
theorem dX4_obeys_136 : decode cX4_obeys 136 = .ok (.iload_n 2, 1) := by decide +kernel
theorem dX4_obeys_137 : decode cX4_obeys 137 = .ok (.iload 6, 2) := by decide +kernel
theorem dX4_obeys_139 : decode cX4_obeys 139 = .ok (.invokevirtual 188, 3) := by decide +kernel
theorem dX4_obeys_142 : decode cX4_obeys 142 = .ok (.ifCond .eq 7, 3) := by decide +kernel
theorem dX4_obeys_145 : decode cX4_obeys 145 = .ok (.iconst 1, 1) := by decide +kernel
theorem dX4_obeys_146 : decode cX4_obeys 146 = .ok (.goto 4, 3) := by decide +kernel
theorem dX4_obeys_149 : decode cX4_obeys 149 = .ok (.iconst 0, 1) := by decide +kernel
theorem dX4_obeys_150 : decode cX4_obeys 150 = .ok (.ireturn, 1) := by decide +kernel
theorem dX4_obeys_151 : decode cX4_obeys 151 = .ok (.aload_n 0, 1) := by decide +kernel
theorem dX4_obeys_152 : decode cX4_obeys 152 = .ok (.iload_n 2, 1) := by decide +kernel
theorem dX4_obeys_153 : decode cX4_obeys 153 = .ok (.iload 7, 2) := by decide +kernel
theorem dX4_obeys_155 : decode cX4_obeys 155 = .ok (.invokevirtual 191, 3) := by decide +kernel
theorem dX4_obeys_158 : decode cX4_obeys 158 = .ok (.ireturn, 1) := by decide +kernel
theorem dX4_obeys_159 : decode cX4_obeys 159 = .ok (.iload_n 3, 1) := by decide +kernel
theorem dX4_obeys_160 : decode cX4_obeys 160 = .ok (.ifCond .ne 32, 3) := by decide +kernel
theorem dX4_obeys_163 : decode cX4_obeys 163 = .ok (.aload_n 0, 1) := by decide +kernel
theorem dX4_obeys_164 : decode cX4_obeys 164 = .ok (.getfield 26, 3) := by decide +kernel
theorem dX4_obeys_167 : decode cX4_obeys 167 = .ok (.iload_n 2, 1) := by decide +kernel
theorem dX4_obeys_168 : decode cX4_obeys 168 = .ok (.invokevirtual 88, 3) := by decide +kernel
theorem dX4_obeys_171 : decode cX4_obeys 171 = .ok (.ifCond .eq 21, 3) := by decide +kernel
theorem dX4_obeys_174 : decode cX4_obeys 174 = .ok (.aload_n 0, 1) := by decide +kernel
theorem dX4_obeys_175 : decode cX4_obeys 175 = .ok (.getfield 26, 3) := by decide +kernel
theorem dX4_obeys_178 : decode cX4_obeys 178 = .ok (.iload_n 2, 1) := by decide +kernel
theorem dX4_obeys_179 : decode cX4_obeys 179 = .ok (.iconst 0, 1) := by decide +kernel
theorem dX4_obeys_180 : decode cX4_obeys 180 = .ok (.invokevirtual 96, 3) := by decide +kernel
theorem dX4_obeys_183 : decode cX4_obeys 183 = .ok (.iload 6, 2) := by decide +kernel
theorem dX4_obeys_185 : decode cX4_obeys 185 = .ok (.if_icmp .lt 7, 3) := by decide +kernel
theorem dX4_obeys_188 : decode cX4_obeys 188 = .ok (.iconst 1, 1) := by decide +kernel
theorem dX4_obeys_189 : decode cX4_obeys 189 = .ok (.goto 4, 3) := by decide +kernel
theorem dX4_obeys_192 : decode cX4_obeys 192 = .ok (.iconst 0, 1) := by decide +kernel
theorem dX4_obeys_193 : decode cX4_obeys 193 = .ok (.ireturn, 1) := by decide +kernel
theorem dX4_obeys_194 : decode cX4_obeys 194 = .ok (.aload_n 0, 1) := by decide +kernel
theorem dX4_obeys_195 : decode cX4_obeys 195 = .ok (.getfield 29, 3) := by decide +kernel
theorem dX4_obeys_198 : decode cX4_obeys 198 = .ok (.iload 8, 2) := by decide +kernel
theorem dX4_obeys_200 : decode cX4_obeys 200 = .ok (.invokevirtual 88, 3) := by decide +kernel
theorem dX4_obeys_203 : decode cX4_obeys 203 = .ok (.ifCond .eq 22, 3) := by decide +kernel
theorem dX4_obeys_206 : decode cX4_obeys 206 = .ok (.aload_n 0, 1) := by decide +kernel
theorem dX4_obeys_207 : decode cX4_obeys 207 = .ok (.getfield 29, 3) := by decide +kernel
theorem dX4_obeys_210 : decode cX4_obeys 210 = .ok (.iload 8, 2) := by decide +kernel
theorem dX4_obeys_212 : decode cX4_obeys 212 = .ok (.iconst 3, 1) := by decide +kernel
theorem dX4_obeys_213 : decode cX4_obeys 213 = .ok (.invokevirtual 96, 3) := by decide +kernel
theorem dX4_obeys_216 : decode cX4_obeys 216 = .ok (.iload 6, 2) := by decide +kernel
theorem dX4_obeys_218 : decode cX4_obeys 218 = .ok (.if_icmp .lt 7, 3) := by decide +kernel
theorem dX4_obeys_221 : decode cX4_obeys 221 = .ok (.iconst 1, 1) := by decide +kernel
theorem dX4_obeys_222 : decode cX4_obeys 222 = .ok (.goto 4, 3) := by decide +kernel
theorem dX4_obeys_225 : decode cX4_obeys 225 = .ok (.iconst 0, 1) := by decide +kernel
theorem dX4_obeys_226 : decode cX4_obeys 226 = .ok (.ireturn, 1) := by decide +kernel
theorem dX4_obeys_227 : decode cX4_obeys 227 = .ok (.iload 4, 2) := by decide +kernel
theorem dX4_obeys_229 : decode cX4_obeys 229 = .ok (.ifCond .ne 34, 3) := by decide +kernel
theorem dX4_obeys_232 : decode cX4_obeys 232 = .ok (.aload_n 0, 1) := by decide +kernel
theorem dX4_obeys_233 : decode cX4_obeys 233 = .ok (.getfield 29, 3) := by decide +kernel
theorem dX4_obeys_236 : decode cX4_obeys 236 = .ok (.iload 8, 2) := by decide +kernel
theorem dX4_obeys_238 : decode cX4_obeys 238 = .ok (.invokevirtual 88, 3) := by decide +kernel
theorem dX4_obeys_241 : decode cX4_obeys 241 = .ok (.ifCond .eq 22, 3) := by decide +kernel
theorem dX4_obeys_244 : decode cX4_obeys 244 = .ok (.aload_n 0, 1) := by decide +kernel
theorem dX4_obeys_245 : decode cX4_obeys 245 = .ok (.getfield 29, 3) := by decide +kernel
theorem dX4_obeys_248 : decode cX4_obeys 248 = .ok (.iload 8, 2) := by decide +kernel
theorem dX4_obeys_250 : decode cX4_obeys 250 = .ok (.iconst 4, 1) := by decide +kernel
theorem dX4_obeys_251 : decode cX4_obeys 251 = .ok (.invokevirtual 96, 3) := by decide +kernel
theorem dX4_obeys_254 : decode cX4_obeys 254 = .ok (.iload 5, 2) := by decide +kernel
theorem dX4_obeys_256 : decode cX4_obeys 256 = .ok (.if_icmp .ne 7, 3) := by decide +kernel
theorem dX4_obeys_259 : decode cX4_obeys 259 = .ok (.iconst 1, 1) := by decide +kernel
theorem dX4_obeys_260 : decode cX4_obeys 260 = .ok (.goto 4, 3) := by decide +kernel
theorem dX4_obeys_263 : decode cX4_obeys 263 = .ok (.iconst 0, 1) := by decide +kernel
theorem dX4_obeys_264 : decode cX4_obeys 264 = .ok (.ireturn, 1) := by decide +kernel
theorem dX4_obeys_265 : decode cX4_obeys 265 = .ok (.iload 6, 2) := by decide +kernel
theorem dX4_obeys_267 : decode cX4_obeys 267 = .ok (.iconst 1, 1) := by decide +kernel
theorem dX4_obeys_268 : decode cX4_obeys 268 = .ok (.if_icmp .gt 49, 3) := by decide +kernel
theorem dX4_obeys_271 : decode cX4_obeys 271 = .ok (.iload_n 3, 1) := by decide +kernel
theorem dX4_obeys_272 : decode cX4_obeys 272 = .ok (.ifCond .ne 45, 3) := by decide +kernel
theorem dX4_obeys_275 : decode cX4_obeys 275 = .ok (.aload_n 0, 1) := by decide +kernel
theorem dX4_obeys_276 : decode cX4_obeys 276 = .ok (.getfield 14, 3) := by decide +kernel
theorem dX4_obeys_279 : decode cX4_obeys 279 = .ok (.iload_n 2, 1) := by decide +kernel
theorem dX4_obeys_280 : decode cX4_obeys 280 = .ok (.invokevirtual 88, 3) := by decide +kernel
theorem dX4_obeys_283 : decode cX4_obeys 283 = .ok (.ifCond .eq 34, 3) := by decide +kernel
theorem dX4_obeys_286 : decode cX4_obeys 286 = .ok (.aload_n 0, 1) := by decide +kernel
theorem dX4_obeys_287 : decode cX4_obeys 287 = .ok (.iload_n 2, 1) := by decide +kernel
theorem dX4_obeys_288 : decode cX4_obeys 288 = .ok (.invokevirtual 156, 3) := by decide +kernel
theorem dX4_obeys_291 : decode cX4_obeys 291 = .ok (.ifCond .le 7, 3) := by decide +kernel
theorem dX4_obeys_294 : decode cX4_obeys 294 = .ok (.iconst 1, 1) := by decide +kernel
theorem dX4_obeys_295 : decode cX4_obeys 295 = .ok (.goto 4, 3) := by decide +kernel
theorem dX4_obeys_298 : decode cX4_obeys 298 = .ok (.iconst 0, 1) := by decide +kernel
theorem dX4_obeys_299 : decode cX4_obeys 299 = .ok (.iload 5, 2) := by decide +kernel
theorem dX4_obeys_301 : decode cX4_obeys 301 = .ok (.iconst 1, 1) := by decide +kernel
theorem dX4_obeys_302 : decode cX4_obeys 302 = .ok (.if_icmp .ne 7, 3) := by decide +kernel
theorem dX4_obeys_305 : decode cX4_obeys 305 = .ok (.iconst 1, 1) := by decide +kernel
theorem dX4_obeys_306 : decode cX4_obeys 306 = .ok (.goto 4, 3) := by decide +kernel
theorem dX4_obeys_309 : decode cX4_obeys 309 = .ok (.iconst 0, 1) := by decide +kernel
theorem dX4_obeys_310 : decode cX4_obeys 310 = .ok (.if_icmp .ne 7, 3) := by decide +kernel
theorem dX4_obeys_313 : decode cX4_obeys 313 = .ok (.iconst 1, 1) := by decide +kernel
theorem dX4_obeys_314 : decode cX4_obeys 314 = .ok (.goto 4, 3) := by decide +kernel
theorem dX4_obeys_317 : decode cX4_obeys 317 = .ok (.iconst 0, 1) := by decide +kernel
theorem dX4_obeys_318 : decode cX4_obeys 318 = .ok (.ireturn, 1) := by decide +kernel
theorem dX4_obeys_319 : decode cX4_obeys 319 = .ok (.iload_n 3, 1) := by decide +kernel
theorem dX4_obeys_320 : decode cX4_obeys 320 = .ok (.ifCond .ne 36, 3) := by decide +kernel
theorem dX4_obeys_323 : decode cX4_obeys 323 = .ok (.iload 4, 2) := by decide +kernel
theorem dX4_obeys_325 : decode cX4_obeys 325 = .ok (.ifCond .ne 31, 3) := by decide +kernel
theorem dX4_obeys_328 : decode cX4_obeys 328 = .ok (.aload_n 0, 1) := by decide +kernel
theorem dX4_obeys_329 : decode cX4_obeys 329 = .ok (.getfield 20, 3) := by decide +kernel
theorem dX4_obeys_332 : decode cX4_obeys 332 = .ok (.iload_n 2, 1) := by decide +kernel
theorem dX4_obeys_333 : decode cX4_obeys 333 = .ok (.invokevirtual 88, 3) := by decide +kernel
theorem dX4_obeys_336 : decode cX4_obeys 336 = .ok (.ifCond .eq 20, 3) := by decide +kernel
theorem dX4_obeys_339 : decode cX4_obeys 339 = .ok (.aload_n 0, 1) := by decide +kernel
theorem dX4_obeys_340 : decode cX4_obeys 340 = .ok (.getfield 39, 3) := by decide +kernel
theorem dX4_obeys_343 : decode cX4_obeys 343 = .ok (.iload_n 2, 1) := by decide +kernel
theorem dX4_obeys_344 : decode cX4_obeys 344 = .ok (.invokevirtual 92, 3) := by decide +kernel
theorem dX4_obeys_347 : decode cX4_obeys 347 = .ok (.iload 5, 2) := by decide +kernel
theorem dX4_obeys_349 : decode cX4_obeys 349 = .ok (.if_icmp .lt 7, 3) := by decide +kernel
theorem dX4_obeys_352 : decode cX4_obeys 352 = .ok (.iconst 1, 1) := by decide +kernel
theorem dX4_obeys_353 : decode cX4_obeys 353 = .ok (.goto 4, 3) := by decide +kernel
theorem dX4_obeys_356 : decode cX4_obeys 356 = .ok (.iconst 0, 1) := by decide +kernel
theorem dX4_obeys_357 : decode cX4_obeys 357 = .ok (.ireturn, 1) := by decide +kernel
theorem dX4_obeys_358 : decode cX4_obeys 358 = .ok (.iload_n 2, 1) := by decide +kernel
theorem dX4_obeys_359 : decode cX4_obeys 359 = .ok (.ifCond .ne 21, 3) := by decide +kernel
theorem dX4_obeys_362 : decode cX4_obeys 362 = .ok (.iload_n 3, 1) := by decide +kernel
theorem dX4_obeys_363 : decode cX4_obeys 363 = .ok (.ifCond .ne 17, 3) := by decide +kernel
theorem dX4_obeys_366 : decode cX4_obeys 366 = .ok (.aload_n 0, 1) := by decide +kernel
theorem dX4_obeys_367 : decode cX4_obeys 367 = .ok (.iconst 2, 1) := by decide +kernel
theorem dX4_obeys_368 : decode cX4_obeys 368 = .ok (.invokevirtual 182, 3) := by decide +kernel
theorem dX4_obeys_371 : decode cX4_obeys 371 = .ok (.iload 6, 2) := by decide +kernel
theorem dX4_obeys_373 : decode cX4_obeys 373 = .ok (.if_icmp .lt 7, 3) := by decide +kernel
theorem dX4_obeys_376 : decode cX4_obeys 376 = .ok (.iconst 1, 1) := by decide +kernel
theorem dX4_obeys_377 : decode cX4_obeys 377 = .ok (.goto 4, 3) := by decide +kernel
theorem dX4_obeys_380 : decode cX4_obeys 380 = .ok (.iconst 0, 1) := by decide +kernel
theorem dX4_obeys_381 : decode cX4_obeys 381 = .ok (.ireturn, 1) := by decide +kernel
theorem dX4_obeys_382 : decode cX4_obeys 382 = .ok (.iconst 0, 1) := by decide +kernel
theorem dX4_obeys_383 : decode cX4_obeys 383 = .ok (.ireturn, 1) := by decide +kernel
set_option maxRecDepth 20000 in
theorem ggX4_obeysHold_X5_has : GoodIn wsX4_obeysHold wsX5_has := goodIn_r _ [6, 7, 29, 30, 31, 32] (by decide +kernel) (by decide +kernel)
set_option maxRecDepth 20000 in
theorem gX4_obeysHold_X5_has : GoodIn wsX4_obeysHold (wsV RX4 88 RX5 yX5_has wsX5_has) := goodIn_app (goodIn_of _ (by decide +kernel)) ggX4_obeysHold_X5_has
set_option maxRecDepth 20000 in
theorem ggX4_obeysHold_X6_isWithin : GoodIn wsX4_obeysHold wsX6_isWithin := goodIn_r _ [10] (by decide +kernel) (by decide +kernel)
set_option maxRecDepth 20000 in
theorem gX4_obeysHold_X6_isWithin_n112 : GoodIn wsX4_obeysHold (wsX6_isWithin) := ggX4_obeysHold_X6_isWithin
set_option maxRecDepth 20000 in
theorem ggX4_obeysHold_X5_put : GoodIn wsX4_obeysHold wsX5_put := goodIn_r _ [14, 15, 7, 16, 29, 30, 31, 32] (by decide +kernel) (by decide +kernel)
set_option maxRecDepth 20000 in
theorem gX4_obeysHold_X5_put : GoodIn wsX4_obeysHold (wsV RX4 74 RX5 yX5_put wsX5_put) := goodIn_app (goodIn_of _ (by decide +kernel)) ggX4_obeysHold_X5_put
theorem dX4_obeysHold_0 : decode cX4_obeysHold 0 = .ok (.aload_n 0, 1) := by decide +kernel
theorem dX4_obeysHold_1 : decode cX4_obeysHold 1 = .ok (.getfield 26, 3) := by decide +kernel
theorem dX4_obeysHold_4 : decode cX4_obeysHold 4 = .ok (.iload_n 1, 1) := by decide +kernel
theorem dX4_obeysHold_5 : decode cX4_obeysHold 5 = .ok (.invokevirtual 88, 3) := by decide +kernel
theorem dX4_obeysHold_8 : decode cX4_obeysHold 8 = .ok (.ifCond .eq 13, 3) := by decide +kernel
theorem dX4_obeysHold_11 : decode cX4_obeysHold 11 = .ok (.iload_n 2, 1) := by decide +kernel
theorem dX4_obeysHold_12 : decode cX4_obeysHold 12 = .ok (.iconst 0, 1) := by decide +kernel
theorem dX4_obeysHold_13 : decode cX4_obeysHold 13 = .ok (.bipush 23, 2) := by decide +kernel
theorem dX4_obeysHold_15 : decode cX4_obeysHold 15 = .ok (.invokestatic 112, 3) := by decide +kernel
theorem dX4_obeysHold_18 : decode cX4_obeysHold 18 = .ok (.ifCond .ne 5, 3) := by decide +kernel
theorem dX4_obeysHold_21 : decode cX4_obeysHold 21 = .ok (.iconst 0, 1) := by decide +kernel
theorem dX4_obeysHold_22 : decode cX4_obeysHold 22 = .ok (.ireturn, 1) := by decide +kernel
theorem dX4_obeysHold_23 : decode cX4_obeysHold 23 = .ok (.aload_n 0, 1) := by decide +kernel
theorem dX4_obeysHold_24 : decode cX4_obeysHold 24 = .ok (.getfield 26, 3) := by decide +kernel
theorem dX4_obeysHold_27 : decode cX4_obeysHold 27 = .ok (.iload_n 1, 1) := by decide +kernel
theorem dX4_obeysHold_28 : decode cX4_obeysHold 28 = .ok (.iconst 1, 1) := by decide +kernel
theorem dX4_obeysHold_29 : decode cX4_obeysHold 29 = .ok (.iload_n 2, 1) := by decide +kernel
theorem dX4_obeysHold_30 : decode cX4_obeysHold 30 = .ok (.invokevirtual 74, 3) := by decide +kernel
theorem dX4_obeysHold_33 : decode cX4_obeysHold 33 = .ok (.iconst 1, 1) := by decide +kernel
theorem dX4_obeysHold_34 : decode cX4_obeysHold 34 = .ok (.ireturn, 1) := by decide +kernel
set_option maxRecDepth 20000 in
theorem ggX4_obeysSupply_X5_has : GoodIn wsX4_obeysSupply wsX5_has := goodIn_r _ [6, 7, 33, 34, 35, 36] (by decide +kernel) (by decide +kernel)
set_option maxRecDepth 20000 in
theorem gX4_obeysSupply_X5_has : GoodIn wsX4_obeysSupply (wsV RX4 88 RX5 yX5_has wsX5_has) := goodIn_app (goodIn_of _ (by decide +kernel)) ggX4_obeysSupply_X5_has
set_option maxRecDepth 20000 in
theorem ggX4_obeysSupply_X6_isWithin : GoodIn wsX4_obeysSupply wsX6_isWithin := goodIn_r _ [10] (by decide +kernel) (by decide +kernel)
set_option maxRecDepth 20000 in
theorem gX4_obeysSupply_X6_isWithin_n112 : GoodIn wsX4_obeysSupply (wsX6_isWithin) := ggX4_obeysSupply_X6_isWithin
set_option maxRecDepth 20000 in
theorem ggX4_obeysSupply_X5_get : GoodIn wsX4_obeysSupply wsX5_get := goodIn_r _ [14, 15, 7, 16, 33, 34, 35, 36] (by decide +kernel) (by decide +kernel)
set_option maxRecDepth 20000 in
theorem gX4_obeysSupply_X5_get : GoodIn wsX4_obeysSupply (wsV RX4 96 RX5 yX5_get wsX5_get) := goodIn_app (goodIn_of _ (by decide +kernel)) ggX4_obeysSupply_X5_get
set_option maxRecDepth 20000 in
theorem ggX4_obeysSupply_X5_raise : GoodIn wsX4_obeysSupply wsX5_raise := goodIn_r _ [20, 15, 7, 16, 33, 34, 35, 36] (by decide +kernel) (by decide +kernel)
set_option maxRecDepth 20000 in
theorem gX4_obeysSupply_X5_raise : GoodIn wsX4_obeysSupply (wsV RX4 126 RX5 yX5_raise wsX5_raise) := goodIn_app (goodIn_of _ (by decide +kernel)) ggX4_obeysSupply_X5_raise
theorem dX4_obeysSupply_0 : decode cX4_obeysSupply 0 = .ok (.aload_n 0, 1) := by decide +kernel
theorem dX4_obeysSupply_1 : decode cX4_obeysSupply 1 = .ok (.getfield 23, 3) := by decide +kernel
theorem dX4_obeysSupply_4 : decode cX4_obeysSupply 4 = .ok (.iload_n 1, 1) := by decide +kernel
theorem dX4_obeysSupply_5 : decode cX4_obeysSupply 5 = .ok (.invokevirtual 88, 3) := by decide +kernel
theorem dX4_obeysSupply_8 : decode cX4_obeysSupply 8 = .ok (.ifCond .eq 31, 3) := by decide +kernel
theorem dX4_obeysSupply_11 : decode cX4_obeysSupply 11 = .ok (.iload_n 2, 1) := by decide +kernel
theorem dX4_obeysSupply_12 : decode cX4_obeysSupply 12 = .ok (.iconst 1, 1) := by decide +kernel
theorem dX4_obeysSupply_13 : decode cX4_obeysSupply 13 = .ok (.sipush 500, 3) := by decide +kernel
theorem dX4_obeysSupply_16 : decode cX4_obeysSupply 16 = .ok (.invokestatic 112, 3) := by decide +kernel
theorem dX4_obeysSupply_19 : decode cX4_obeysSupply 19 = .ok (.ifCond .eq 20, 3) := by decide +kernel
theorem dX4_obeysSupply_22 : decode cX4_obeysSupply 22 = .ok (.aload_n 0, 1) := by decide +kernel
theorem dX4_obeysSupply_23 : decode cX4_obeysSupply 23 = .ok (.getfield 23, 3) := by decide +kernel
theorem dX4_obeysSupply_26 : decode cX4_obeysSupply 26 = .ok (.iload_n 1, 1) := by decide +kernel
theorem dX4_obeysSupply_27 : decode cX4_obeysSupply 27 = .ok (.iconst 1, 1) := by decide +kernel
theorem dX4_obeysSupply_28 : decode cX4_obeysSupply 28 = .ok (.invokevirtual 96, 3) := by decide +kernel
theorem dX4_obeysSupply_31 : decode cX4_obeysSupply 31 = .ok (.iload_n 2, 1) := by decide +kernel
theorem dX4_obeysSupply_32 : decode cX4_obeysSupply 32 = .ok (.iadd, 1) := by decide +kernel
theorem dX4_obeysSupply_33 : decode cX4_obeysSupply 33 = .ok (.sipush 999, 3) := by decide +kernel
theorem dX4_obeysSupply_36 : decode cX4_obeysSupply 36 = .ok (.if_icmp .le 5, 3) := by decide +kernel
theorem dX4_obeysSupply_39 : decode cX4_obeysSupply 39 = .ok (.iconst 0, 1) := by decide +kernel
theorem dX4_obeysSupply_40 : decode cX4_obeysSupply 40 = .ok (.ireturn, 1) := by decide +kernel
theorem dX4_obeysSupply_41 : decode cX4_obeysSupply 41 = .ok (.aload_n 0, 1) := by decide +kernel
theorem dX4_obeysSupply_42 : decode cX4_obeysSupply 42 = .ok (.getfield 23, 3) := by decide +kernel
theorem dX4_obeysSupply_45 : decode cX4_obeysSupply 45 = .ok (.iload_n 1, 1) := by decide +kernel
theorem dX4_obeysSupply_46 : decode cX4_obeysSupply 46 = .ok (.iconst 1, 1) := by decide +kernel
theorem dX4_obeysSupply_47 : decode cX4_obeysSupply 47 = .ok (.iload_n 2, 1) := by decide +kernel
theorem dX4_obeysSupply_48 : decode cX4_obeysSupply 48 = .ok (.invokevirtual 126, 3) := by decide +kernel
theorem dX4_obeysSupply_51 : decode cX4_obeysSupply 51 = .ok (.iconst 1, 1) := by decide +kernel
theorem dX4_obeysSupply_52 : decode cX4_obeysSupply 52 = .ok (.ireturn, 1) := by decide +kernel
set_option maxRecDepth 20000 in
theorem ggX4_meetChance_X5_count : GoodIn wsX4_meetChance wsX5_count := goodIn_r _ [11, 12, 35, 36, 37, 38] (by decide +kernel) (by decide +kernel)
set_option maxRecDepth 20000 in
theorem gX4_meetChance_X5_count : GoodIn wsX4_meetChance (wsV RX4 109 RX5 yX5_count wsX5_count) := goodIn_app (goodIn_of _ (by decide +kernel)) ggX4_meetChance_X5_count
set_option maxRecDepth 20000 in
theorem ggX4_meetChance_X5_put : GoodIn wsX4_meetChance wsX5_put := goodIn_r _ [16, 17, 12, 18, 35, 36, 37, 38] (by decide +kernel) (by decide +kernel)
set_option maxRecDepth 20000 in
theorem gX4_meetChance_X5_put : GoodIn wsX4_meetChance (wsV RX4 74 RX5 yX5_put wsX5_put) := goodIn_app (goodIn_of _ (by decide +kernel)) ggX4_meetChance_X5_put
set_option maxRecDepth 20000 in
theorem ggX4_meetChance_X5_get : GoodIn wsX4_meetChance wsX5_get := goodIn_r _ [22, 17, 12, 18, 35, 36, 37, 38] (by decide +kernel) (by decide +kernel)
set_option maxRecDepth 20000 in
theorem gX4_meetChance_X5_get : GoodIn wsX4_meetChance (wsV RX4 96 RX5 yX5_get wsX5_get) := goodIn_app (goodIn_of _ (by decide +kernel)) ggX4_meetChance_X5_get
theorem dX4_meetChance_0 : decode cX4_meetChance 0 = .ok (.aload_n 0, 1) := by decide +kernel
theorem dX4_meetChance_1 : decode cX4_meetChance 1 = .ok (.getfield 26, 3) := by decide +kernel
theorem dX4_meetChance_4 : decode cX4_meetChance 4 = .ok (.invokevirtual 109, 3) := by decide +kernel
theorem dX4_meetChance_7 : decode cX4_meetChance 7 = .ok (.istore_n 2, 1) := by decide +kernel
theorem dX4_meetChance_8 : decode cX4_meetChance 8 = .ok (.aload_n 0, 1) := by decide +kernel
theorem dX4_meetChance_9 : decode cX4_meetChance 9 = .ok (.getfield 23, 3) := by decide +kernel
theorem dX4_meetChance_12 : decode cX4_meetChance 12 = .ok (.invokevirtual 109, 3) := by decide +kernel
theorem dX4_meetChance_15 : decode cX4_meetChance 15 = .ok (.istore_n 3, 1) := by decide +kernel
theorem dX4_meetChance_16 : decode cX4_meetChance 16 = .ok (.iload_n 1, 1) := by decide +kernel
theorem dX4_meetChance_17 : decode cX4_meetChance 17 = .ok (.iconst 5, 1) := by decide +kernel
theorem dX4_meetChance_18 : decode cX4_meetChance 18 = .ok (.irem, 1) := by decide +kernel
theorem dX4_meetChance_19 : decode cX4_meetChance 19 = .ok (.ifCond .ne 28, 3) := by decide +kernel
theorem dX4_meetChance_22 : decode cX4_meetChance 22 = .ok (.iload_n 2, 1) := by decide +kernel
theorem dX4_meetChance_23 : decode cX4_meetChance 23 = .ok (.ifCond .le 24, 3) := by decide +kernel
theorem dX4_meetChance_26 : decode cX4_meetChance 26 = .ok (.aload_n 0, 1) := by decide +kernel
theorem dX4_meetChance_27 : decode cX4_meetChance 27 = .ok (.getfield 26, 3) := by decide +kernel
theorem dX4_meetChance_30 : decode cX4_meetChance 30 = .ok (.iload_n 1, 1) := by decide +kernel
theorem dX4_meetChance_31 : decode cX4_meetChance 31 = .ok (.bipush 8, 2) := by decide +kernel
theorem dX4_meetChance_33 : decode cX4_meetChance 33 = .ok (.idiv, 1) := by decide +kernel
theorem dX4_meetChance_34 : decode cX4_meetChance 34 = .ok (.iload_n 2, 1) := by decide +kernel
theorem dX4_meetChance_35 : decode cX4_meetChance 35 = .ok (.irem, 1) := by decide +kernel
theorem dX4_meetChance_36 : decode cX4_meetChance 36 = .ok (.iconst 1, 1) := by decide +kernel
theorem dX4_meetChance_37 : decode cX4_meetChance 37 = .ok (.iload_n 1, 1) := by decide +kernel
theorem dX4_meetChance_38 : decode cX4_meetChance 38 = .ok (.bipush 64, 2) := by decide +kernel
theorem dX4_meetChance_40 : decode cX4_meetChance 40 = .ok (.idiv, 1) := by decide +kernel
theorem dX4_meetChance_41 : decode cX4_meetChance 41 = .ok (.bipush 6, 2) := by decide +kernel
theorem dX4_meetChance_43 : decode cX4_meetChance 43 = .ok (.irem, 1) := by decide +kernel
theorem dX4_meetChance_44 : decode cX4_meetChance 44 = .ok (.invokevirtual 74, 3) := by decide +kernel
theorem dX4_meetChance_47 : decode cX4_meetChance 47 = .ok (.iload_n 1, 1) := by decide +kernel
theorem dX4_meetChance_48 : decode cX4_meetChance 48 = .ok (.iconst 5, 1) := by decide +kernel
theorem dX4_meetChance_49 : decode cX4_meetChance 49 = .ok (.irem, 1) := by decide +kernel
theorem dX4_meetChance_50 : decode cX4_meetChance 50 = .ok (.iconst 1, 1) := by decide +kernel
theorem dX4_meetChance_51 : decode cX4_meetChance 51 = .ok (.if_icmp .ne 49, 3) := by decide +kernel
theorem dX4_meetChance_54 : decode cX4_meetChance 54 = .ok (.iload_n 3, 1) := by decide +kernel
theorem dX4_meetChance_55 : decode cX4_meetChance 55 = .ok (.ifCond .le 45, 3) := by decide +kernel
theorem dX4_meetChance_58 : decode cX4_meetChance 58 = .ok (.iload_n 1, 1) := by decide +kernel
theorem dX4_meetChance_59 : decode cX4_meetChance 59 = .ok (.bipush 8, 2) := by decide +kernel
theorem dX4_meetChance_61 : decode cX4_meetChance 61 = .ok (.idiv, 1) := by decide +kernel
theorem dX4_meetChance_62 : decode cX4_meetChance 62 = .ok (.iload_n 3, 1) := by decide +kernel
theorem dX4_meetChance_63 : decode cX4_meetChance 63 = .ok (.irem, 1) := by decide +kernel
theorem dX4_meetChance_64 : decode cX4_meetChance 64 = .ok (.istore 4, 2) := by decide +kernel
theorem dX4_meetChance_66 : decode cX4_meetChance 66 = .ok (.aload_n 0, 1) := by decide +kernel
theorem dX4_meetChance_67 : decode cX4_meetChance 67 = .ok (.getfield 23, 3) := by decide +kernel
theorem dX4_meetChance_70 : decode cX4_meetChance 70 = .ok (.iload 4, 2) := by decide +kernel
theorem dX4_meetChance_72 : decode cX4_meetChance 72 = .ok (.iconst 1, 1) := by decide +kernel
theorem dX4_meetChance_73 : decode cX4_meetChance 73 = .ok (.sipush 999, 3) := by decide +kernel
theorem dX4_meetChance_76 : decode cX4_meetChance 76 = .ok (.aload_n 0, 1) := by decide +kernel
theorem dX4_meetChance_77 : decode cX4_meetChance 77 = .ok (.getfield 23, 3) := by decide +kernel
theorem dX4_meetChance_80 : decode cX4_meetChance 80 = .ok (.iload 4, 2) := by decide +kernel
theorem dX4_meetChance_82 : decode cX4_meetChance 82 = .ok (.iconst 1, 1) := by decide +kernel
theorem dX4_meetChance_83 : decode cX4_meetChance 83 = .ok (.invokevirtual 96, 3) := by decide +kernel
theorem dX4_meetChance_86 : decode cX4_meetChance 86 = .ok (.iload_n 1, 1) := by decide +kernel
theorem dX4_meetChance_87 : decode cX4_meetChance 87 = .ok (.bipush 64, 2) := by decide +kernel
theorem dX4_meetChance_89 : decode cX4_meetChance 89 = .ok (.idiv, 1) := by decide +kernel
theorem dX4_meetChance_90 : decode cX4_meetChance 90 = .ok (.bipush 30, 2) := by decide +kernel
theorem dX4_meetChance_92 : decode cX4_meetChance 92 = .ok (.irem, 1) := by decide +kernel
theorem dX4_meetChance_93 : decode cX4_meetChance 93 = .ok (.iadd, 1) := by decide +kernel
theorem dX4_meetChance_94 : decode cX4_meetChance 94 = .ok (.invokestatic 106, 3) := by decide +kernel
theorem dX4_meetChance_97 : decode cX4_meetChance 97 = .ok (.invokevirtual 74, 3) := by decide +kernel
theorem dX4_meetChance_100 : decode cX4_meetChance 100 = .ok (.return_, 1) := by decide +kernel
theorem dX5_init_0 : decode cX5_init 0 = .ok (.aload_n 0, 1) := by decide +kernel
theorem dX5_init_1 : decode cX5_init 1 = .ok (.invokespecial 3, 3) := by decide +kernel
theorem dX5_init_4 : decode cX5_init 4 = .ok (.aload_n 0, 1) := by decide +kernel
theorem dX5_init_5 : decode cX5_init 5 = .ok (.iload_n 1, 1) := by decide +kernel
theorem dX5_init_6 : decode cX5_init 6 = .ok (.putfield 9, 3) := by decide +kernel
theorem dX5_init_9 : decode cX5_init 9 = .ok (.aload_n 0, 1) := by decide +kernel
theorem dX5_init_10 : decode cX5_init 10 = .ok (.iload_n 2, 1) := by decide +kernel
theorem dX5_init_11 : decode cX5_init 11 = .ok (.putfield 15, 3) := by decide +kernel
theorem dX5_init_14 : decode cX5_init 14 = .ok (.aload_n 0, 1) := by decide +kernel
theorem dX5_init_15 : decode cX5_init 15 = .ok (.iconst 0, 1) := by decide +kernel
theorem dX5_init_16 : decode cX5_init 16 = .ok (.iload_n 1, 1) := by decide +kernel
theorem dX5_init_17 : decode cX5_init 17 = .ok (.iload_n 2, 1) := by decide +kernel
theorem dX5_init_18 : decode cX5_init 18 = .ok (.imul, 1) := by decide +kernel
theorem dX5_init_19 : decode cX5_init 19 = .ok (.invokestatic 18, 3) := by decide +kernel
theorem dX5_init_22 : decode cX5_init 22 = .ok (.newarray .int, 2) := by decide +kernel
theorem dX5_init_24 : decode cX5_init 24 = .ok (.putfield 24, 3) := by decide +kernel
theorem dX5_init_27 : decode cX5_init 27 = .ok (.return_, 1) := by decide +kernel
theorem dX5_count_0 : decode cX5_count 0 = .ok (.aload_n 0, 1) := by decide +kernel
theorem dX5_count_1 : decode cX5_count 1 = .ok (.getfield 28, 3) := by decide +kernel
theorem dX5_count_4 : decode cX5_count 4 = .ok (.ireturn, 1) := by decide +kernel
theorem dX5_isFull_0 : decode cX5_isFull 0 = .ok (.aload_n 0, 1) := by decide +kernel
theorem dX5_isFull_1 : decode cX5_isFull 1 = .ok (.getfield 28, 3) := by decide +kernel
theorem dX5_isFull_4 : decode cX5_isFull 4 = .ok (.aload_n 0, 1) := by decide +kernel
theorem dX5_isFull_5 : decode cX5_isFull 5 = .ok (.getfield 9, 3) := by decide +kernel
theorem dX5_isFull_8 : decode cX5_isFull 8 = .ok (.if_icmp .lt 7, 3) := by decide +kernel
theorem dX5_isFull_11 : decode cX5_isFull 11 = .ok (.iconst 1, 1) := by decide +kernel
theorem dX5_isFull_12 : decode cX5_isFull 12 = .ok (.goto 4, 3) := by decide +kernel
theorem dX5_isFull_15 : decode cX5_isFull 15 = .ok (.iconst 0, 1) := by decide +kernel
theorem dX5_isFull_16 : decode cX5_isFull 16 = .ok (.ireturn, 1) := by decide +kernel
theorem dX5_has_0 : decode cX5_has 0 = .ok (.iload_n 1, 1) := by decide +kernel
theorem dX5_has_1 : decode cX5_has 1 = .ok (.ifCond .lt 15, 3) := by decide +kernel
theorem dX5_has_4 : decode cX5_has 4 = .ok (.iload_n 1, 1) := by decide +kernel
theorem dX5_has_5 : decode cX5_has 5 = .ok (.aload_n 0, 1) := by decide +kernel
theorem dX5_has_6 : decode cX5_has 6 = .ok (.getfield 28, 3) := by decide +kernel
theorem dX5_has_9 : decode cX5_has 9 = .ok (.if_icmp .ge 7, 3) := by decide +kernel
theorem dX5_has_12 : decode cX5_has 12 = .ok (.iconst 1, 1) := by decide +kernel
theorem dX5_has_13 : decode cX5_has 13 = .ok (.goto 4, 3) := by decide +kernel
theorem dX5_has_16 : decode cX5_has 16 = .ok (.iconst 0, 1) := by decide +kernel
theorem dX5_has_17 : decode cX5_has 17 = .ok (.ireturn, 1) := by decide +kernel
theorem dX5_get_0 : decode cX5_get 0 = .ok (.iload_n 1, 1) := by decide +kernel
theorem dX5_get_1 : decode cX5_get 1 = .ok (.aload_n 0, 1) := by decide +kernel
theorem dX5_get_2 : decode cX5_get 2 = .ok (.getfield 15, 3) := by decide +kernel
theorem dX5_get_5 : decode cX5_get 5 = .ok (.imul, 1) := by decide +kernel
theorem dX5_get_6 : decode cX5_get 6 = .ok (.iload_n 2, 1) := by decide +kernel
theorem dX5_get_7 : decode cX5_get 7 = .ok (.iadd, 1) := by decide +kernel
theorem dX5_get_8 : decode cX5_get 8 = .ok (.istore_n 3, 1) := by decide +kernel
theorem dX5_get_9 : decode cX5_get 9 = .ok (.iload_n 1, 1) := by decide +kernel
theorem dX5_get_10 : decode cX5_get 10 = .ok (.ifCond .lt 27, 3) := by decide +kernel
theorem dX5_get_13 : decode cX5_get 13 = .ok (.iload_n 1, 1) := by decide +kernel
theorem dX5_get_14 : decode cX5_get 14 = .ok (.aload_n 0, 1) := by decide +kernel
theorem dX5_get_15 : decode cX5_get 15 = .ok (.getfield 28, 3) := by decide +kernel
theorem dX5_get_18 : decode cX5_get 18 = .ok (.if_icmp .ge 19, 3) := by decide +kernel
theorem dX5_get_21 : decode cX5_get 21 = .ok (.iload_n 2, 1) := by decide +kernel
theorem dX5_get_22 : decode cX5_get 22 = .ok (.ifCond .lt 15, 3) := by decide +kernel
theorem dX5_get_25 : decode cX5_get 25 = .ok (.iload_n 2, 1) := by decide +kernel
theorem dX5_get_26 : decode cX5_get 26 = .ok (.aload_n 0, 1) := by decide +kernel
theorem dX5_get_27 : decode cX5_get 27 = .ok (.getfield 15, 3) := by decide +kernel
theorem dX5_get_30 : decode cX5_get 30 = .ok (.if_icmp .ge 7, 3) := by decide +kernel
theorem dX5_get_33 : decode cX5_get 33 = .ok (.iconst 1, 1) := by decide +kernel
theorem dX5_get_34 : decode cX5_get 34 = .ok (.goto 4, 3) := by decide +kernel
theorem dX5_get_37 : decode cX5_get 37 = .ok (.iconst 0, 1) := by decide +kernel
theorem dX5_get_38 : decode cX5_get 38 = .ok (.istore 4, 2) := by decide +kernel
theorem dX5_get_40 : decode cX5_get 40 = .ok (.iload 4, 2) := by decide +kernel
theorem dX5_get_42 : decode cX5_get 42 = .ok (.ifCond .eq 25, 3) := by decide +kernel
theorem dX5_get_45 : decode cX5_get 45 = .ok (.iload_n 3, 1) := by decide +kernel
theorem dX5_get_46 : decode cX5_get 46 = .ok (.ifCond .lt 21, 3) := by decide +kernel
theorem dX5_get_49 : decode cX5_get 49 = .ok (.iload_n 3, 1) := by decide +kernel
theorem dX5_get_50 : decode cX5_get 50 = .ok (.aload_n 0, 1) := by decide +kernel
theorem dX5_get_51 : decode cX5_get 51 = .ok (.getfield 24, 3) := by decide +kernel
theorem dX5_get_54 : decode cX5_get 54 = .ok (.arraylength, 1) := by decide +kernel
theorem dX5_get_55 : decode cX5_get 55 = .ok (.if_icmp .ge 12, 3) := by decide +kernel
theorem dX5_get_58 : decode cX5_get 58 = .ok (.aload_n 0, 1) := by decide +kernel
theorem dX5_get_59 : decode cX5_get 59 = .ok (.getfield 24, 3) := by decide +kernel
theorem dX5_get_62 : decode cX5_get 62 = .ok (.iload_n 3, 1) := by decide +kernel
theorem dX5_get_63 : decode cX5_get 63 = .ok (.iaload, 1) := by decide +kernel
theorem dX5_get_64 : decode cX5_get 64 = .ok (.goto 5, 3) := by decide +kernel
theorem dX5_get_67 : decode cX5_get 67 = .ok (.bipush (-9), 2) := by decide +kernel
theorem dX5_get_69 : decode cX5_get 69 = .ok (.ireturn, 1) := by decide +kernel
theorem dX5_put_0 : decode cX5_put 0 = .ok (.iload_n 1, 1) := by decide +kernel
theorem dX5_put_1 : decode cX5_put 1 = .ok (.aload_n 0, 1) := by decide +kernel
theorem dX5_put_2 : decode cX5_put 2 = .ok (.getfield 15, 3) := by decide +kernel
theorem dX5_put_5 : decode cX5_put 5 = .ok (.imul, 1) := by decide +kernel
theorem dX5_put_6 : decode cX5_put 6 = .ok (.iload_n 2, 1) := by decide +kernel
theorem dX5_put_7 : decode cX5_put 7 = .ok (.iadd, 1) := by decide +kernel
theorem dX5_put_8 : decode cX5_put 8 = .ok (.istore 4, 2) := by decide +kernel
theorem dX5_put_10 : decode cX5_put 10 = .ok (.iload_n 1, 1) := by decide +kernel
theorem dX5_put_11 : decode cX5_put 11 = .ok (.ifCond .lt 27, 3) := by decide +kernel
theorem dX5_put_14 : decode cX5_put 14 = .ok (.iload_n 1, 1) := by decide +kernel
theorem dX5_put_15 : decode cX5_put 15 = .ok (.aload_n 0, 1) := by decide +kernel
theorem dX5_put_16 : decode cX5_put 16 = .ok (.getfield 28, 3) := by decide +kernel
theorem dX5_put_19 : decode cX5_put 19 = .ok (.if_icmp .ge 19, 3) := by decide +kernel
theorem dX5_put_22 : decode cX5_put 22 = .ok (.iload_n 2, 1) := by decide +kernel
theorem dX5_put_23 : decode cX5_put 23 = .ok (.ifCond .lt 15, 3) := by decide +kernel
theorem dX5_put_26 : decode cX5_put 26 = .ok (.iload_n 2, 1) := by decide +kernel
theorem dX5_put_27 : decode cX5_put 27 = .ok (.aload_n 0, 1) := by decide +kernel
theorem dX5_put_28 : decode cX5_put 28 = .ok (.getfield 15, 3) := by decide +kernel
theorem dX5_put_31 : decode cX5_put 31 = .ok (.if_icmp .ge 7, 3) := by decide +kernel
theorem dX5_put_34 : decode cX5_put 34 = .ok (.iconst 1, 1) := by decide +kernel
theorem dX5_put_35 : decode cX5_put 35 = .ok (.goto 4, 3) := by decide +kernel
theorem dX5_put_38 : decode cX5_put 38 = .ok (.iconst 0, 1) := by decide +kernel
theorem dX5_put_39 : decode cX5_put 39 = .ok (.istore 5, 2) := by decide +kernel
theorem dX5_put_41 : decode cX5_put 41 = .ok (.iload 5, 2) := by decide +kernel
theorem dX5_put_43 : decode cX5_put 43 = .ok (.ifCond .eq 26, 3) := by decide +kernel
theorem dX5_put_46 : decode cX5_put 46 = .ok (.iload 4, 2) := by decide +kernel
theorem dX5_put_48 : decode cX5_put 48 = .ok (.ifCond .lt 21, 3) := by decide +kernel
theorem dX5_put_51 : decode cX5_put 51 = .ok (.iload 4, 2) := by decide +kernel
theorem dX5_put_53 : decode cX5_put 53 = .ok (.aload_n 0, 1) := by decide +kernel
theorem dX5_put_54 : decode cX5_put 54 = .ok (.getfield 24, 3) := by decide +kernel
theorem dX5_put_57 : decode cX5_put 57 = .ok (.arraylength, 1) := by decide +kernel
theorem dX5_put_58 : decode cX5_put 58 = .ok (.if_icmp .ge 11, 3) := by decide +kernel
theorem dX5_put_61 : decode cX5_put 61 = .ok (.aload_n 0, 1) := by decide +kernel
theorem dX5_put_62 : decode cX5_put 62 = .ok (.getfield 24, 3) := by decide +kernel
theorem dX5_put_65 : decode cX5_put 65 = .ok (.iload 4, 2) := by decide +kernel
theorem dX5_put_67 : decode cX5_put 67 = .ok (.iload_n 3, 1) := by decide +kernel
theorem dX5_put_68 : decode cX5_put 68 = .ok (.iastore, 1) := by decide +kernel
theorem dX5_put_69 : decode cX5_put 69 = .ok (.return_, 1) := by decide +kernel
theorem dX5_raise_0 : decode cX5_raise 0 = .ok (.iload_n 1, 1) := by decide +kernel
theorem dX5_raise_1 : decode cX5_raise 1 = .ok (.aload_n 0, 1) := by decide +kernel
theorem dX5_raise_2 : decode cX5_raise 2 = .ok (.getfield 15, 3) := by decide +kernel
theorem dX5_raise_5 : decode cX5_raise 5 = .ok (.imul, 1) := by decide +kernel
theorem dX5_raise_6 : decode cX5_raise 6 = .ok (.iload_n 2, 1) := by decide +kernel
theorem dX5_raise_7 : decode cX5_raise 7 = .ok (.iadd, 1) := by decide +kernel
theorem dX5_raise_8 : decode cX5_raise 8 = .ok (.istore 4, 2) := by decide +kernel
theorem dX5_raise_10 : decode cX5_raise 10 = .ok (.iload_n 1, 1) := by decide +kernel
theorem dX5_raise_11 : decode cX5_raise 11 = .ok (.ifCond .lt 27, 3) := by decide +kernel
theorem dX5_raise_14 : decode cX5_raise 14 = .ok (.iload_n 1, 1) := by decide +kernel
theorem dX5_raise_15 : decode cX5_raise 15 = .ok (.aload_n 0, 1) := by decide +kernel
theorem dX5_raise_16 : decode cX5_raise 16 = .ok (.getfield 28, 3) := by decide +kernel
theorem dX5_raise_19 : decode cX5_raise 19 = .ok (.if_icmp .ge 19, 3) := by decide +kernel
theorem dX5_raise_22 : decode cX5_raise 22 = .ok (.iload_n 2, 1) := by decide +kernel
theorem dX5_raise_23 : decode cX5_raise 23 = .ok (.ifCond .lt 15, 3) := by decide +kernel
theorem dX5_raise_26 : decode cX5_raise 26 = .ok (.iload_n 2, 1) := by decide +kernel
theorem dX5_raise_27 : decode cX5_raise 27 = .ok (.aload_n 0, 1) := by decide +kernel
theorem dX5_raise_28 : decode cX5_raise 28 = .ok (.getfield 15, 3) := by decide +kernel
theorem dX5_raise_31 : decode cX5_raise 31 = .ok (.if_icmp .ge 7, 3) := by decide +kernel
theorem dX5_raise_34 : decode cX5_raise 34 = .ok (.iconst 1, 1) := by decide +kernel
theorem dX5_raise_35 : decode cX5_raise 35 = .ok (.goto 4, 3) := by decide +kernel
theorem dX5_raise_38 : decode cX5_raise 38 = .ok (.iconst 0, 1) := by decide +kernel
theorem dX5_raise_39 : decode cX5_raise 39 = .ok (.istore 5, 2) := by decide +kernel
theorem dX5_raise_41 : decode cX5_raise 41 = .ok (.iload 5, 2) := by decide +kernel
theorem dX5_raise_43 : decode cX5_raise 43 = .ok (.ifCond .eq 29, 3) := by decide +kernel
theorem dX5_raise_46 : decode cX5_raise 46 = .ok (.iload 4, 2) := by decide +kernel
theorem dX5_raise_48 : decode cX5_raise 48 = .ok (.ifCond .lt 24, 3) := by decide +kernel
theorem dX5_raise_51 : decode cX5_raise 51 = .ok (.iload 4, 2) := by decide +kernel
theorem dX5_raise_53 : decode cX5_raise 53 = .ok (.aload_n 0, 1) := by decide +kernel
theorem dX5_raise_54 : decode cX5_raise 54 = .ok (.getfield 24, 3) := by decide +kernel
theorem dX5_raise_57 : decode cX5_raise 57 = .ok (.arraylength, 1) := by decide +kernel
theorem dX5_raise_58 : decode cX5_raise 58 = .ok (.if_icmp .ge 14, 3) := by decide +kernel
theorem dX5_raise_61 : decode cX5_raise 61 = .ok (.aload_n 0, 1) := by decide +kernel
theorem dX5_raise_62 : decode cX5_raise 62 = .ok (.getfield 24, 3) := by decide +kernel
theorem dX5_raise_65 : decode cX5_raise 65 = .ok (.iload 4, 2) := by decide +kernel
theorem dX5_raise_67 : decode cX5_raise 67 = .ok (.dup2, 1) := by decide +kernel
theorem dX5_raise_68 : decode cX5_raise 68 = .ok (.iaload, 1) := by decide +kernel
theorem dX5_raise_69 : decode cX5_raise 69 = .ok (.iload_n 3, 1) := by decide +kernel
theorem dX5_raise_70 : decode cX5_raise 70 = .ok (.iadd, 1) := by decide +kernel
theorem dX5_raise_71 : decode cX5_raise 71 = .ok (.iastore, 1) := by decide +kernel
theorem dX5_raise_72 : decode cX5_raise 72 = .ok (.return_, 1) := by decide +kernel
set_option maxRecDepth 20000 in
theorem ggX5_addRow_X5_put : GoodIn wsX5_addRow wsX5_put := goodIn_r _ [8, 3, 1, 9, 10, 11, 12, 13] (by decide +kernel) (by decide +kernel)
set_option maxRecDepth 20000 in
theorem gX5_addRow_X5_put : GoodIn wsX5_addRow (wsV RX5 31 RX5 yX5_put wsX5_put) := goodIn_app (goodIn_of _ (by decide +kernel)) ggX5_addRow_X5_put
theorem dX5_addRow_0 : decode cX5_addRow 0 = .ok (.aload_n 0, 1) := by decide +kernel
theorem dX5_addRow_1 : decode cX5_addRow 1 = .ok (.getfield 28, 3) := by decide +kernel
theorem dX5_addRow_4 : decode cX5_addRow 4 = .ok (.aload_n 0, 1) := by decide +kernel
theorem dX5_addRow_5 : decode cX5_addRow 5 = .ok (.getfield 9, 3) := by decide +kernel
theorem dX5_addRow_8 : decode cX5_addRow 8 = .ok (.if_icmp .lt 6, 3) := by decide +kernel
theorem dX5_addRow_11 : decode cX5_addRow 11 = .ok (.bipush (-9), 2) := by decide +kernel
theorem dX5_addRow_13 : decode cX5_addRow 13 = .ok (.ireturn, 1) := by decide +kernel
theorem dX5_addRow_14 : decode cX5_addRow 14 = .ok (.aload_n 0, 1) := by decide +kernel
theorem dX5_addRow_15 : decode cX5_addRow 15 = .ok (.dup, 1) := by decide +kernel
theorem dX5_addRow_16 : decode cX5_addRow 16 = .ok (.getfield 28, 3) := by decide +kernel
theorem dX5_addRow_19 : decode cX5_addRow 19 = .ok (.iconst 1, 1) := by decide +kernel
theorem dX5_addRow_20 : decode cX5_addRow 20 = .ok (.iadd, 1) := by decide +kernel
theorem dX5_addRow_21 : decode cX5_addRow 21 = .ok (.putfield 28, 3) := by decide +kernel
theorem dX5_addRow_24 : decode cX5_addRow 24 = .ok (.iconst 0, 1) := by decide +kernel
theorem dX5_addRow_25 : decode cX5_addRow 25 = .ok (.istore_n 1, 1) := by decide +kernel
theorem dX5_addRow_26 : decode cX5_addRow 26 = .ok (.iload_n 1, 1) := by decide +kernel
theorem dX5_addRow_27 : decode cX5_addRow 27 = .ok (.aload_n 0, 1) := by decide +kernel
theorem dX5_addRow_28 : decode cX5_addRow 28 = .ok (.getfield 15, 3) := by decide +kernel
theorem dX5_addRow_31 : decode cX5_addRow 31 = .ok (.if_icmp .ge 21, 3) := by decide +kernel
theorem dX5_addRow_34 : decode cX5_addRow 34 = .ok (.aload_n 0, 1) := by decide +kernel
theorem dX5_addRow_35 : decode cX5_addRow 35 = .ok (.aload_n 0, 1) := by decide +kernel
theorem dX5_addRow_36 : decode cX5_addRow 36 = .ok (.getfield 28, 3) := by decide +kernel
theorem dX5_addRow_39 : decode cX5_addRow 39 = .ok (.iconst 1, 1) := by decide +kernel
theorem dX5_addRow_40 : decode cX5_addRow 40 = .ok (.isub, 1) := by decide +kernel
theorem dX5_addRow_41 : decode cX5_addRow 41 = .ok (.iload_n 1, 1) := by decide +kernel
theorem dX5_addRow_42 : decode cX5_addRow 42 = .ok (.iconst 0, 1) := by decide +kernel
theorem dX5_addRow_43 : decode cX5_addRow 43 = .ok (.invokevirtual 31, 3) := by decide +kernel
theorem dX5_addRow_46 : decode cX5_addRow 46 = .ok (.iinc 1 1, 3) := by decide +kernel
theorem dX5_addRow_49 : decode cX5_addRow 49 = .ok (.goto (-23), 3) := by decide +kernel
theorem dX5_addRow_52 : decode cX5_addRow 52 = .ok (.aload_n 0, 1) := by decide +kernel
theorem dX5_addRow_53 : decode cX5_addRow 53 = .ok (.getfield 28, 3) := by decide +kernel
theorem dX5_addRow_56 : decode cX5_addRow 56 = .ok (.iconst 1, 1) := by decide +kernel
theorem dX5_addRow_57 : decode cX5_addRow 57 = .ok (.isub, 1) := by decide +kernel
theorem dX5_addRow_58 : decode cX5_addRow 58 = .ok (.ireturn, 1) := by decide +kernel
set_option maxRecDepth 20000 in
theorem ggX5_rowAt_X5_get : GoodIn wsX5_rowAt wsX5_get := goodIn_r _ [6, 7, 1, 8, 9, 10, 11, 12] (by decide +kernel) (by decide +kernel)
set_option maxRecDepth 20000 in
theorem gX5_rowAt_X5_get : GoodIn wsX5_rowAt (wsV RX5 35 RX5 yX5_get wsX5_get) := goodIn_app (goodIn_of _ (by decide +kernel)) ggX5_rowAt_X5_get
theorem dX5_rowAt_0 : decode cX5_rowAt 0 = .ok (.iconst 0, 1) := by decide +kernel
theorem dX5_rowAt_1 : decode cX5_rowAt 1 = .ok (.istore_n 2, 1) := by decide +kernel
theorem dX5_rowAt_2 : decode cX5_rowAt 2 = .ok (.iload_n 2, 1) := by decide +kernel
theorem dX5_rowAt_3 : decode cX5_rowAt 3 = .ok (.aload_n 0, 1) := by decide +kernel
theorem dX5_rowAt_4 : decode cX5_rowAt 4 = .ok (.getfield 28, 3) := by decide +kernel
theorem dX5_rowAt_7 : decode cX5_rowAt 7 = .ok (.if_icmp .ge 21, 3) := by decide +kernel
theorem dX5_rowAt_10 : decode cX5_rowAt 10 = .ok (.aload_n 0, 1) := by decide +kernel
theorem dX5_rowAt_11 : decode cX5_rowAt 11 = .ok (.iload_n 2, 1) := by decide +kernel
theorem dX5_rowAt_12 : decode cX5_rowAt 12 = .ok (.iconst 0, 1) := by decide +kernel
theorem dX5_rowAt_13 : decode cX5_rowAt 13 = .ok (.invokevirtual 35, 3) := by decide +kernel
theorem dX5_rowAt_16 : decode cX5_rowAt 16 = .ok (.iload_n 1, 1) := by decide +kernel
theorem dX5_rowAt_17 : decode cX5_rowAt 17 = .ok (.if_icmp .ne 5, 3) := by decide +kernel
theorem dX5_rowAt_20 : decode cX5_rowAt 20 = .ok (.iload_n 2, 1) := by decide +kernel
theorem dX5_rowAt_21 : decode cX5_rowAt 21 = .ok (.ireturn, 1) := by decide +kernel
theorem dX5_rowAt_22 : decode cX5_rowAt 22 = .ok (.iinc 2 1, 3) := by decide +kernel
theorem dX5_rowAt_25 : decode cX5_rowAt 25 = .ok (.goto (-23), 3) := by decide +kernel
theorem dX5_rowAt_28 : decode cX5_rowAt 28 = .ok (.bipush (-9), 2) := by decide +kernel
theorem dX5_rowAt_30 : decode cX5_rowAt 30 = .ok (.ireturn, 1) := by decide +kernel
set_option maxRecDepth 20000 in
theorem ggX5_sum_X5_get : GoodIn wsX5_sum wsX5_get := goodIn_r _ [6, 7, 1, 8, 9, 10, 11, 12] (by decide +kernel) (by decide +kernel)
set_option maxRecDepth 20000 in
theorem gX5_sum_X5_get : GoodIn wsX5_sum (wsV RX5 35 RX5 yX5_get wsX5_get) := goodIn_app (goodIn_of _ (by decide +kernel)) ggX5_sum_X5_get
theorem dX5_sum_0 : decode cX5_sum 0 = .ok (.iconst 0, 1) := by decide +kernel
theorem dX5_sum_1 : decode cX5_sum 1 = .ok (.istore_n 2, 1) := by decide +kernel
theorem dX5_sum_2 : decode cX5_sum 2 = .ok (.iconst 0, 1) := by decide +kernel
theorem dX5_sum_3 : decode cX5_sum 3 = .ok (.istore_n 3, 1) := by decide +kernel
theorem dX5_sum_4 : decode cX5_sum 4 = .ok (.iload_n 3, 1) := by decide +kernel
theorem dX5_sum_5 : decode cX5_sum 5 = .ok (.aload_n 0, 1) := by decide +kernel
theorem dX5_sum_6 : decode cX5_sum 6 = .ok (.getfield 28, 3) := by decide +kernel
theorem dX5_sum_9 : decode cX5_sum 9 = .ok (.if_icmp .ge 18, 3) := by decide +kernel
theorem dX5_sum_12 : decode cX5_sum 12 = .ok (.iload_n 2, 1) := by decide +kernel
theorem dX5_sum_13 : decode cX5_sum 13 = .ok (.aload_n 0, 1) := by decide +kernel
theorem dX5_sum_14 : decode cX5_sum 14 = .ok (.iload_n 3, 1) := by decide +kernel
theorem dX5_sum_15 : decode cX5_sum 15 = .ok (.iload_n 1, 1) := by decide +kernel
theorem dX5_sum_16 : decode cX5_sum 16 = .ok (.invokevirtual 35, 3) := by decide +kernel
theorem dX5_sum_19 : decode cX5_sum 19 = .ok (.iadd, 1) := by decide +kernel
theorem dX5_sum_20 : decode cX5_sum 20 = .ok (.istore_n 2, 1) := by decide +kernel
theorem dX5_sum_21 : decode cX5_sum 21 = .ok (.iinc 3 1, 3) := by decide +kernel
theorem dX5_sum_24 : decode cX5_sum 24 = .ok (.goto (-20), 3) := by decide +kernel
theorem dX5_sum_27 : decode cX5_sum 27 = .ok (.iload_n 2, 1) := by decide +kernel
theorem dX5_sum_28 : decode cX5_sum 28 = .ok (.ireturn, 1) := by decide +kernel
theorem dX5_emptyOut_0 : decode cX5_emptyOut 0 = .ok (.aload_n 0, 1) := by decide +kernel
theorem dX5_emptyOut_1 : decode cX5_emptyOut 1 = .ok (.iconst 0, 1) := by decide +kernel
theorem dX5_emptyOut_2 : decode cX5_emptyOut 2 = .ok (.putfield 28, 3) := by decide +kernel
theorem dX5_emptyOut_5 : decode cX5_emptyOut 5 = .ok (.return_, 1) := by decide +kernel
theorem dX5_copyFrom_0 : decode cX5_copyFrom 0 = .ok (.aload_n 0, 1) := by decide +kernel
theorem dX5_copyFrom_1 : decode cX5_copyFrom 1 = .ok (.aload_n 1, 1) := by decide +kernel
theorem dX5_copyFrom_2 : decode cX5_copyFrom 2 = .ok (.getfield 28, 3) := by decide +kernel
theorem dX5_copyFrom_5 : decode cX5_copyFrom 5 = .ok (.putfield 28, 3) := by decide +kernel
theorem dX5_copyFrom_8 : decode cX5_copyFrom 8 = .ok (.aload_n 1, 1) := by decide +kernel
theorem dX5_copyFrom_9 : decode cX5_copyFrom 9 = .ok (.getfield 24, 3) := by decide +kernel
theorem dX5_copyFrom_12 : decode cX5_copyFrom 12 = .ok (.iconst 0, 1) := by decide +kernel
theorem dX5_copyFrom_13 : decode cX5_copyFrom 13 = .ok (.aload_n 0, 1) := by decide +kernel
theorem dX5_copyFrom_14 : decode cX5_copyFrom 14 = .ok (.getfield 24, 3) := by decide +kernel
theorem dX5_copyFrom_17 : decode cX5_copyFrom 17 = .ok (.iconst 0, 1) := by decide +kernel
theorem dX5_copyFrom_18 : decode cX5_copyFrom 18 = .ok (.aload_n 1, 1) := by decide +kernel
theorem dX5_copyFrom_19 : decode cX5_copyFrom 19 = .ok (.getfield 24, 3) := by decide +kernel
theorem dX5_copyFrom_22 : decode cX5_copyFrom 22 = .ok (.arraylength, 1) := by decide +kernel
theorem dX5_copyFrom_23 : decode cX5_copyFrom 23 = .ok (.aload_n 0, 1) := by decide +kernel
theorem dX5_copyFrom_24 : decode cX5_copyFrom 24 = .ok (.getfield 24, 3) := by decide +kernel
theorem dX5_copyFrom_27 : decode cX5_copyFrom 27 = .ok (.arraylength, 1) := by decide +kernel
theorem dX5_copyFrom_28 : decode cX5_copyFrom 28 = .ok (.invokestatic 38, 3) := by decide +kernel
theorem dX5_copyFrom_31 : decode cX5_copyFrom 31 = .ok (.invokestatic 41, 3) := by decide +kernel
theorem dX5_copyFrom_34 : decode cX5_copyFrom 34 = .ok (.return_, 1) := by decide +kernel
set_option maxRecDepth 20000 in
theorem ggX6_init_X1_init : GoodIn wsX6_init wsX1_init := goodIn_r _ [22, 23, 2, 3, 24, 25, 94, 95, 96, 97] (by decide +kernel) (by decide +kernel)
set_option maxRecDepth 20000 in
theorem gX6_init_X1_init_n9 : GoodIn wsX6_init (wsX1_init) := ggX6_init_X1_init
set_option maxRecDepth 20000 in
theorem ggX6_init_X4_init : GoodIn wsX6_init wsX4_init := goodIn_r _ [27, 28, 2, 3, 29, 30, 31, 32, 33, 34, 35, 36, 37, 38, 39, 40, 41, 42, 43, 44, 45, 46, 47, 48, 49, 50, 51, 52, 53, 54, 55, 56, 57, 58, 59, 60, 61, 62, 63, 120, 121, 122, 123, 103, 104, 105, 106, 107, 108, 109, 110, 111, 112, 113, 114, 124, 125, 126] (by decide +kernel) (by decide +kernel)
set_option maxRecDepth 20000 in
theorem gX6_init_X4_init_n18 : GoodIn wsX6_init (wsX4_init) := ggX6_init_X4_init
set_option maxRecDepth 20000 in
theorem ggX6_init_X0_init : GoodIn wsX6_init wsX0_init := goodIn_r _ [65, 66, 2, 3, 67, 18, 19, 68, 69, 70, 71, 72, 73, 51, 52, 53, 74, 75, 76, 77, 9, 10, 26, 27, 28, 29, 30, 31, 32, 33, 34, 35, 36, 37, 38, 39, 40, 41, 42, 43, 44, 45, 46, 47, 48, 49, 50, 54, 55, 56, 57, 58, 59, 60, 61, 62, 63, 118, 119, 115, 116, 117, 103, 104, 105, 106, 107, 108, 109, 110, 111, 112, 113, 114, 120, 121, 122, 123, 124, 125, 126] (by decide +kernel) (by decide +kernel)
set_option maxRecDepth 20000 in
theorem gX6_init_X0_init_n28 : GoodIn wsX6_init (wsX0_init) := ggX6_init_X0_init
set_option maxRecDepth 20000 in
theorem ggX6_init_X3_init : GoodIn wsX6_init wsX3_init := goodIn_r _ [71, 72, 2, 3, 73, 51, 52, 53, 74, 75, 76, 77, 9, 10, 26, 27, 28, 29, 30, 31, 32, 33, 34, 35, 36, 37, 38, 39, 40, 41, 42, 43, 44, 45, 46, 47, 48, 49, 50, 54, 55, 56, 57, 58, 59, 60, 61, 62, 63, 118, 119, 103, 104, 105, 106, 107, 108, 109, 110, 111, 112, 113, 114, 120, 121, 122, 123, 124, 125, 126] (by decide +kernel) (by decide +kernel)
set_option maxRecDepth 20000 in
theorem gX6_init_X3_init : GoodIn wsX6_init (wsX3_init) := ggX6_init_X3_init
set_option maxRecDepth 20000 in
theorem ggX6_init_X4_begin : GoodIn wsX6_init wsX4_begin := goodIn_r _ [82, 83, 84, 32, 33, 34, 35, 36, 40, 41, 85, 86, 87, 31, 88, 89, 90, 91, 92, 39, 93, 62, 103, 104, 105, 106, 107, 108, 109, 110, 111, 112, 113, 114, 120, 121, 122, 123, 124, 125, 126] (by decide +kernel) (by decide +kernel)
set_option maxRecDepth 20000 in
theorem gX6_init_X4_begin : GoodIn wsX6_init (wsV RX6 42 RX4 yX4_begin wsX4_begin) := goodIn_app (goodIn_of _ (by decide +kernel)) ggX6_init_X4_begin
theorem dX6_init_0 : decode cX6_init 0 = .ok (.aload_n 0, 1) := by decide +kernel
theorem dX6_init_1 : decode cX6_init 1 = .ok (.invokespecial 1, 3) := by decide +kernel
theorem dX6_init_4 : decode cX6_init 4 = .ok (.aload_n 0, 1) := by decide +kernel
theorem dX6_init_5 : decode cX6_init 5 = .ok (.new 7, 3) := by decide +kernel
theorem dX6_init_8 : decode cX6_init 8 = .ok (.dup, 1) := by decide +kernel
theorem dX6_init_9 : decode cX6_init 9 = .ok (.invokespecial 9, 3) := by decide +kernel
theorem dX6_init_12 : decode cX6_init 12 = .ok (.putfield 10, 3) := by decide +kernel
theorem dX6_init_15 : decode cX6_init 15 = .ok (.aload_n 0, 1) := by decide +kernel
theorem dX6_init_16 : decode cX6_init 16 = .ok (.new 16, 3) := by decide +kernel
theorem dX6_init_19 : decode cX6_init 19 = .ok (.dup, 1) := by decide +kernel
theorem dX6_init_20 : decode cX6_init 20 = .ok (.invokespecial 18, 3) := by decide +kernel
theorem dX6_init_23 : decode cX6_init 23 = .ok (.putfield 19, 3) := by decide +kernel
theorem dX6_init_26 : decode cX6_init 26 = .ok (.aload_n 0, 1) := by decide +kernel
theorem dX6_init_27 : decode cX6_init 27 = .ok (.new 16, 3) := by decide +kernel
theorem dX6_init_30 : decode cX6_init 30 = .ok (.dup, 1) := by decide +kernel
theorem dX6_init_31 : decode cX6_init 31 = .ok (.invokespecial 18, 3) := by decide +kernel
theorem dX6_init_34 : decode cX6_init 34 = .ok (.putfield 23, 3) := by decide +kernel
theorem dX6_init_37 : decode cX6_init 37 = .ok (.aload_n 0, 1) := by decide +kernel
theorem dX6_init_38 : decode cX6_init 38 = .ok (.new 26, 3) := by decide +kernel
theorem dX6_init_41 : decode cX6_init 41 = .ok (.dup, 1) := by decide +kernel
theorem dX6_init_42 : decode cX6_init 42 = .ok (.invokespecial 28, 3) := by decide +kernel
theorem dX6_init_45 : decode cX6_init 45 = .ok (.putfield 29, 3) := by decide +kernel
theorem dX6_init_48 : decode cX6_init 48 = .ok (.aload_n 0, 1) := by decide +kernel
theorem dX6_init_49 : decode cX6_init 49 = .ok (.new 33, 3) := by decide +kernel
theorem dX6_init_52 : decode cX6_init 52 = .ok (.dup, 1) := by decide +kernel
theorem dX6_init_53 : decode cX6_init 53 = .ok (.iconst 2, 1) := by decide +kernel
theorem dX6_init_54 : decode cX6_init 54 = .ok (.invokespecial 35, 3) := by decide +kernel
theorem dX6_init_57 : decode cX6_init 57 = .ok (.putfield 38, 3) := by decide +kernel
theorem dX6_init_60 : decode cX6_init 60 = .ok (.aload_n 0, 1) := by decide +kernel
theorem dX6_init_61 : decode cX6_init 61 = .ok (.getfield 19, 3) := by decide +kernel
theorem dX6_init_64 : decode cX6_init 64 = .ok (.bipush 20, 2) := by decide +kernel
theorem dX6_init_66 : decode cX6_init 66 = .ok (.invokevirtual 42, 3) := by decide +kernel
theorem dX6_init_69 : decode cX6_init 69 = .ok (.return_, 1) := by decide +kernel
set_option maxRecDepth 20000 in
theorem ggX6_append_X6_checkRange : GoodIn wsX6_append wsX6_checkRange := goodIn_ca (goodIn_r _ [5, 6, 7, 4, 8, 9, 10, 11, 12, 13] (by decide +kernel) (by decide +kernel)) (goodIn_sub (fun _ h => List.mem_cons_of_mem _ (List.mem_append_left _ (List.mem_append_right _ h))) (by decide +kernel))
set_option maxRecDepth 20000 in
theorem gX6_append_X6_checkRange : GoodIn wsX6_append (va_wsS RX6 45 yX6_checkRange wsX6_checkRange) := goodIn_app (goodIn_of _ (by decide +kernel)) ggX6_append_X6_checkRange
set_option maxRecDepth 20000 in
theorem ggX6_append_X1_isFull : GoodIn wsX6_append wsX1_isFull := goodIn_r _ [18, 19, 35, 36, 37, 38] (by decide +kernel) (by decide +kernel)
set_option maxRecDepth 20000 in
theorem gX6_append_X1_isFull : GoodIn wsX6_append (wsV RX6 49 RX1 yX1_isFull wsX1_isFull) := goodIn_app (goodIn_of _ (by decide +kernel)) ggX6_append_X1_isFull
set_option maxRecDepth 20000 in
theorem ggX6_append_X6_refuseIf : GoodIn wsX6_append wsX6_refuseIf := goodIn_ca (goodIn_r _ [22, 23, 24] (by decide +kernel) (by decide +kernel)) (goodIn_sub (fun _ h => List.mem_cons_of_mem _ (List.mem_append_right _ h)) (by decide +kernel))
set_option maxRecDepth 20000 in
theorem gX6_append_X6_refuseIf : GoodIn wsX6_append (va_wsS RX6 53 yX6_refuseIf wsX6_refuseIf) := goodIn_app (goodIn_of _ (by decide +kernel)) ggX6_append_X6_refuseIf
set_option maxRecDepth 20000 in
theorem ggX6_append_X1_addSign : GoodIn wsX6_append wsX1_addSign := goodIn_r _ [28, 19, 29, 35, 36, 37, 38] (by decide +kernel) (by decide +kernel)
set_option maxRecDepth 20000 in
theorem gX6_append_X1_addSign : GoodIn wsX6_append (wsV RX6 57 RX1 yX1_addSign wsX1_addSign) := goodIn_app (goodIn_of _ (by decide +kernel)) ggX6_append_X1_addSign
theorem dX6_append_0 : decode cX6_append 0 = .ok (.iload_n 1, 1) := by decide +kernel
theorem dX6_append_1 : decode cX6_append 1 = .ok (.iconst 0, 1) := by decide +kernel
theorem dX6_append_2 : decode cX6_append 2 = .ok (.sipush 255, 3) := by decide +kernel
theorem dX6_append_5 : decode cX6_append 5 = .ok (.invokestatic 45, 3) := by decide +kernel
theorem dX6_append_8 : decode cX6_append 8 = .ok (.aload_n 0, 1) := by decide +kernel
theorem dX6_append_9 : decode cX6_append 9 = .ok (.getfield 10, 3) := by decide +kernel
theorem dX6_append_12 : decode cX6_append 12 = .ok (.invokevirtual 49, 3) := by decide +kernel
theorem dX6_append_15 : decode cX6_append 15 = .ok (.invokestatic 53, 3) := by decide +kernel
theorem dX6_append_18 : decode cX6_append 18 = .ok (.aload_n 0, 1) := by decide +kernel
theorem dX6_append_19 : decode cX6_append 19 = .ok (.getfield 10, 3) := by decide +kernel
theorem dX6_append_22 : decode cX6_append 22 = .ok (.iload_n 1, 1) := by decide +kernel
theorem dX6_append_23 : decode cX6_append 23 = .ok (.i2c, 1) := by decide +kernel
theorem dX6_append_24 : decode cX6_append 24 = .ok (.invokevirtual 57, 3) := by decide +kernel
theorem dX6_append_27 : decode cX6_append 27 = .ok (.ireturn, 1) := by decide +kernel
set_option maxRecDepth 20000 in
theorem ggX6_clearText_X1_emptyOut : GoodIn wsX6_clearText wsX1_emptyOut := goodIn_r _ [6, 7, 13, 14, 15, 16] (by decide +kernel) (by decide +kernel)
set_option maxRecDepth 20000 in
theorem gX6_clearText_X1_emptyOut : GoodIn wsX6_clearText (wsV RX6 61 RX1 yX1_emptyOut wsX1_emptyOut) := goodIn_app (goodIn_of _ (by decide +kernel)) ggX6_clearText_X1_emptyOut
theorem dX6_clearText_0 : decode cX6_clearText 0 = .ok (.aload_n 0, 1) := by decide +kernel
theorem dX6_clearText_1 : decode cX6_clearText 1 = .ok (.getfield 10, 3) := by decide +kernel
theorem dX6_clearText_4 : decode cX6_clearText 4 = .ok (.invokevirtual 61, 3) := by decide +kernel
theorem dX6_clearText_7 : decode cX6_clearText 7 = .ok (.ireturn, 1) := by decide +kernel
set_option maxRecDepth 20000 in
theorem ggX6_errorPosition_X1_readInto : GoodIn wsX6_errorPosition wsX1_readInto := goodIn_r _ [7, 8, 9, 10, 11, 12, 13, 6, 14, 15, 16, 17, 18, 19, 20, 21, 22, 23, 24, 25, 26, 27, 28, 29, 30, 31, 32, 33, 34, 35, 36, 37, 38, 39, 40, 41, 42, 43, 44, 45, 46, 47, 48, 49, 50, 51, 52, 53, 54, 55, 56, 57, 58, 59, 60, 61, 62, 63, 64, 65, 66, 67, 68, 69, 70, 71, 72, 73, 74, 75, 76, 77, 78, 79, 80, 81, 82, 83, 84, 85, 86, 87, 88, 89, 90, 91, 92, 93, 94, 95, 96, 97, 98, 99, 100, 101, 102, 103, 104, 105, 106, 107, 108, 109, 110, 111, 112, 113, 114, 115, 116, 117, 118, 119, 120, 121, 122, 123, 124, 125, 126, 127, 128, 129, 130, 131, 132, 133, 134, 135, 136, 137, 138, 139, 140, 141, 142, 143, 144, 145, 146, 147, 148, 149, 150, 151, 152, 153, 154, 155, 156, 157, 158, 159, 165, 166, 167, 168, 169, 170, 171, 172, 173, 174, 175, 176, 177, 178, 179, 180, 181, 182, 183, 184, 185, 186, 187] (by decide +kernel) (by decide +kernel)
set_option maxRecDepth 20000 in
theorem gX6_errorPosition_X1_readInto : GoodIn wsX6_errorPosition (wsV RX6 65 RX1 yX1_readInto wsX1_readInto) := goodIn_app (goodIn_of _ (by decide +kernel)) ggX6_errorPosition_X1_readInto
theorem dX6_errorPosition_0 : decode cX6_errorPosition 0 = .ok (.aload_n 0, 1) := by decide +kernel
theorem dX6_errorPosition_1 : decode cX6_errorPosition 1 = .ok (.getfield 10, 3) := by decide +kernel
theorem dX6_errorPosition_4 : decode cX6_errorPosition 4 = .ok (.aload_n 0, 1) := by decide +kernel
theorem dX6_errorPosition_5 : decode cX6_errorPosition 5 = .ok (.getfield 23, 3) := by decide +kernel
theorem dX6_errorPosition_8 : decode cX6_errorPosition 8 = .ok (.invokevirtual 65, 3) := by decide +kernel
theorem dX6_errorPosition_11 : decode cX6_errorPosition 11 = .ok (.ireturn, 1) := by decide +kernel
set_option maxRecDepth 20000 in
theorem ggX6_load_X1_readInto : GoodIn wsX6_load wsX1_readInto := goodIn_r _ [11, 12, 13, 14, 15, 16, 17, 10, 18, 19, 20, 21, 22, 23, 24, 25, 26, 27, 28, 29, 30, 31, 32, 33, 34, 35, 36, 37, 38, 39, 40, 41, 42, 43, 44, 45, 46, 47, 48, 49, 50, 51, 52, 53, 54, 55, 56, 57, 58, 59, 60, 61, 62, 63, 64, 65, 66, 67, 68, 69, 70, 71, 72, 73, 74, 75, 76, 77, 78, 79, 80, 81, 82, 83, 84, 85, 86, 87, 88, 89, 90, 91, 92, 93, 94, 95, 96, 97, 98, 99, 100, 101, 102, 103, 104, 105, 106, 107, 108, 109, 110, 111, 112, 113, 114, 115, 116, 117, 118, 119, 120, 121, 122, 123, 124, 125, 126, 127, 128, 129, 130, 131, 132, 133, 134, 135, 136, 137, 138, 139, 140, 141, 142, 143, 144, 145, 146, 147, 148, 149, 150, 151, 152, 153, 154, 155, 156, 157, 158, 159, 160, 161, 162, 163, 224, 225, 226, 227, 212, 213, 214, 215, 216, 217, 218, 219, 220, 221, 222, 223, 228, 229, 230, 231, 232, 233, 234] (by decide +kernel) (by decide +kernel)
set_option maxRecDepth 20000 in
theorem gX6_load_X1_readInto : GoodIn wsX6_load (wsV RX6 65 RX1 yX1_readInto wsX1_readInto) := goodIn_app (goodIn_of _ (by decide +kernel)) ggX6_load_X1_readInto
set_option maxRecDepth 20000 in
theorem ggX6_load_X6_refuseIf : GoodIn wsX6_load wsX6_refuseIf := goodIn_ca (goodIn_r _ [166, 167, 168] (by decide +kernel) (by decide +kernel)) (goodIn_sub (fun _ h => List.mem_cons_of_mem _ (List.mem_append_right _ h)) (by decide +kernel))
set_option maxRecDepth 20000 in
theorem gX6_load_X6_refuseIf : GoodIn wsX6_load (va_wsS RX6 53 yX6_refuseIf wsX6_refuseIf) := goodIn_app (goodIn_of _ (by decide +kernel)) ggX6_load_X6_refuseIf
set_option maxRecDepth 20000 in
theorem ggX6_load_X4_copyFrom : GoodIn wsX6_load wsX4_copyFrom := goodIn_r _ [172, 32, 33, 34, 35, 36, 37, 38, 39, 40, 173, 174, 175, 176, 177, 178, 44, 179, 46, 108, 180, 181, 182, 183, 184, 185, 186, 187, 188, 189, 190, 50, 191, 52, 192, 193, 163, 212, 213, 214, 215, 216, 217, 218, 219, 220, 221, 222, 223, 228, 229, 230, 231, 232, 233, 234] (by decide +kernel) (by decide +kernel)
set_option maxRecDepth 20000 in
theorem gX6_load_X4_copyFrom : GoodIn wsX6_load (wsV RX6 69 RX4 yX4_copyFrom wsX4_copyFrom) := goodIn_app (goodIn_of _ (by decide +kernel)) ggX6_load_X4_copyFrom
set_option maxRecDepth 20000 in
theorem ggX6_load_X0_forget : GoodIn wsX6_load wsX0_forget := goodIn_r _ [198, 199, 235, 236, 237] (by decide +kernel) (by decide +kernel)
set_option maxRecDepth 20000 in
theorem gX6_load_X0_forget : GoodIn wsX6_load (wsV RX6 73 RX0 yX0_forget wsX0_forget) := goodIn_app (goodIn_of _ (by decide +kernel)) ggX6_load_X0_forget
set_option maxRecDepth 20000 in
theorem ggX6_load_X3_emptyOut : GoodIn wsX6_load wsX3_emptyOut := goodIn_r _ [204, 205, 238, 239] (by decide +kernel) (by decide +kernel)
set_option maxRecDepth 20000 in
theorem gX6_load_X3_emptyOut : GoodIn wsX6_load (wsV RX6 76 RX3 yX3_emptyOut wsX3_emptyOut) := goodIn_app (goodIn_of _ (by decide +kernel)) ggX6_load_X3_emptyOut
set_option maxRecDepth 20000 in
theorem ggX6_load_X5_count : GoodIn wsX6_load wsX5_count := goodIn_r _ [73, 46, 228, 229, 230, 231] (by decide +kernel) (by decide +kernel)
set_option maxRecDepth 20000 in
theorem gX6_load_X5_count : GoodIn wsX6_load (wsV RX6 82 RX5 yX5_count wsX5_count) := goodIn_app (goodIn_of _ (by decide +kernel)) ggX6_load_X5_count
theorem dX6_load_0 : decode cX6_load 0 = .ok (.aload_n 0, 1) := by decide +kernel
theorem dX6_load_1 : decode cX6_load 1 = .ok (.getfield 10, 3) := by decide +kernel
theorem dX6_load_4 : decode cX6_load 4 = .ok (.aload_n 0, 1) := by decide +kernel
theorem dX6_load_5 : decode cX6_load 5 = .ok (.getfield 23, 3) := by decide +kernel
theorem dX6_load_8 : decode cX6_load 8 = .ok (.invokevirtual 65, 3) := by decide +kernel
theorem dX6_load_11 : decode cX6_load 11 = .ok (.bipush (-9), 2) := by decide +kernel
theorem dX6_load_13 : decode cX6_load 13 = .ok (.if_icmp .eq 7, 3) := by decide +kernel
theorem dX6_load_16 : decode cX6_load 16 = .ok (.iconst 1, 1) := by decide +kernel
theorem dX6_load_17 : decode cX6_load 17 = .ok (.goto 4, 3) := by decide +kernel
theorem dX6_load_20 : decode cX6_load 20 = .ok (.iconst 0, 1) := by decide +kernel
theorem dX6_load_21 : decode cX6_load 21 = .ok (.invokestatic 53, 3) := by decide +kernel
theorem dX6_load_24 : decode cX6_load 24 = .ok (.aload_n 0, 1) := by decide +kernel
theorem dX6_load_25 : decode cX6_load 25 = .ok (.getfield 19, 3) := by decide +kernel
theorem dX6_load_28 : decode cX6_load 28 = .ok (.aload_n 0, 1) := by decide +kernel
theorem dX6_load_29 : decode cX6_load 29 = .ok (.getfield 23, 3) := by decide +kernel
theorem dX6_load_32 : decode cX6_load 32 = .ok (.invokevirtual 69, 3) := by decide +kernel
theorem dX6_load_35 : decode cX6_load 35 = .ok (.aload_n 0, 1) := by decide +kernel
theorem dX6_load_36 : decode cX6_load 36 = .ok (.getfield 29, 3) := by decide +kernel
theorem dX6_load_39 : decode cX6_load 39 = .ok (.invokevirtual 73, 3) := by decide +kernel
theorem dX6_load_42 : decode cX6_load 42 = .ok (.aload_n 0, 1) := by decide +kernel
theorem dX6_load_43 : decode cX6_load 43 = .ok (.getfield 38, 3) := by decide +kernel
theorem dX6_load_46 : decode cX6_load 46 = .ok (.invokevirtual 76, 3) := by decide +kernel
theorem dX6_load_49 : decode cX6_load 49 = .ok (.aload_n 0, 1) := by decide +kernel
theorem dX6_load_50 : decode cX6_load 50 = .ok (.getfield 19, 3) := by decide +kernel
theorem dX6_load_53 : decode cX6_load 53 = .ok (.getfield 78, 3) := by decide +kernel
theorem dX6_load_56 : decode cX6_load 56 = .ok (.invokevirtual 82, 3) := by decide +kernel
theorem dX6_load_59 : decode cX6_load 59 = .ok (.ireturn, 1) := by decide +kernel
set_option maxRecDepth 20000 in
theorem ggX6_about_X6_checkRange : GoodIn wsX6_about wsX6_checkRange := goodIn_ca (goodIn_r _ [10, 11, 12, 9, 13, 14, 15, 16, 17, 18] (by decide +kernel) (by decide +kernel)) (goodIn_sub (fun _ h => List.mem_cons_of_mem _ (List.mem_append_right _ h)) (by decide +kernel))
set_option maxRecDepth 20000 in
theorem gX6_about_X6_checkRange : GoodIn wsX6_about (va_wsS RX6 45 yX6_checkRange wsX6_checkRange) := goodIn_app (goodIn_of _ (by decide +kernel)) ggX6_about_X6_checkRange
set_option maxRecDepth 20000 in
theorem ggX6_about_X4_length : GoodIn wsX6_about wsX4_length := goodIn_r _ [23, 24, 58, 59, 60, 61, 62, 63, 64, 65, 66, 67, 68, 69] (by decide +kernel) (by decide +kernel)
set_option maxRecDepth 20000 in
theorem gX6_about_X4_length : GoodIn wsX6_about (wsV RX6 87 RX4 yX4_length wsX4_length) := goodIn_app (goodIn_of _ (by decide +kernel)) ggX6_about_X4_length
set_option maxRecDepth 20000 in
theorem ggX6_about_X4_hours : GoodIn wsX6_about wsX4_hours := goodIn_r _ [28, 29, 58, 59, 60, 61, 62, 63, 64, 65, 66, 67, 68, 69] (by decide +kernel) (by decide +kernel)
set_option maxRecDepth 20000 in
theorem gX6_about_X4_hours : GoodIn wsX6_about (wsV RX6 90 RX4 yX4_hours wsX4_hours) := goodIn_app (goodIn_of _ (by decide +kernel)) ggX6_about_X4_hours
set_option maxRecDepth 20000 in
theorem ggX6_about_X5_count : GoodIn wsX6_about wsX5_count := goodIn_r _ [34, 35, 70, 71, 72, 73] (by decide +kernel) (by decide +kernel)
set_option maxRecDepth 20000 in
theorem gX6_about_X5_count : GoodIn wsX6_about (wsV RX6 82 RX5 yX5_count wsX5_count) := goodIn_app (goodIn_of _ (by decide +kernel)) ggX6_about_X5_count
set_option maxRecDepth 20000 in
theorem ggX6_about_X4_howMany : GoodIn wsX6_about wsX4_howMany := goodIn_r _ [39, 40, 41, 31, 32, 33, 34, 35, 42, 43, 44, 45, 46, 47, 58, 59, 60, 61, 62, 63, 64, 65, 66, 67, 68, 69, 70, 71, 72, 73] (by decide +kernel) (by decide +kernel)
set_option maxRecDepth 20000 in
theorem gX6_about_X4_howMany : GoodIn wsX6_about (wsV RX6 105 RX4 yX4_howMany wsX4_howMany) := goodIn_app (goodIn_of _ (by decide +kernel)) ggX6_about_X4_howMany
set_option maxRecDepth 20000 in
theorem ggX6_about_X5_sum : GoodIn wsX6_about wsX5_sum := goodIn_r _ [51, 35, 52, 43, 44, 33, 45, 46, 47, 70, 71, 72, 73] (by decide +kernel) (by decide +kernel)
set_option maxRecDepth 20000 in
theorem gX6_about_X5_sum : GoodIn wsX6_about (wsV RX6 109 RX5 yX5_sum wsX5_sum) := goodIn_app (goodIn_of _ (by decide +kernel)) ggX6_about_X5_sum
theorem dX6_about_0 : decode cX6_about 0 = .ok (.iload_n 1, 1) := by decide +kernel
theorem dX6_about_1 : decode cX6_about 1 = .ok (.iconst 0, 1) := by decide +kernel
theorem dX6_about_2 : decode cX6_about 2 = .ok (.bipush 11, 2) := by decide +kernel
theorem dX6_about_4 : decode cX6_about 4 = .ok (.invokestatic 45, 3) := by decide +kernel
theorem dX6_about_7 : decode cX6_about 7 = .ok (.iload_n 1, 1) := by decide +kernel
theorem dX6_about_8 : decode cX6_about 8 = .ok (.tableswitch 173 0 10 #[60, 68, 76, 87, 98, 109, 120, 131, 140, 149, 161], 60) := by decide +kernel
theorem dX6_about_68 : decode cX6_about 68 = .ok (.aload_n 0, 1) := by decide +kernel
theorem dX6_about_69 : decode cX6_about 69 = .ok (.getfield 19, 3) := by decide +kernel
theorem dX6_about_72 : decode cX6_about 72 = .ok (.invokevirtual 87, 3) := by decide +kernel
theorem dX6_about_75 : decode cX6_about 75 = .ok (.ireturn, 1) := by decide +kernel
theorem dX6_about_76 : decode cX6_about 76 = .ok (.aload_n 0, 1) := by decide +kernel
theorem dX6_about_77 : decode cX6_about 77 = .ok (.getfield 19, 3) := by decide +kernel
theorem dX6_about_80 : decode cX6_about 80 = .ok (.invokevirtual 90, 3) := by decide +kernel
theorem dX6_about_83 : decode cX6_about 83 = .ok (.ireturn, 1) := by decide +kernel
theorem dX6_about_84 : decode cX6_about 84 = .ok (.aload_n 0, 1) := by decide +kernel
theorem dX6_about_85 : decode cX6_about 85 = .ok (.getfield 19, 3) := by decide +kernel
theorem dX6_about_88 : decode cX6_about 88 = .ok (.getfield 93, 3) := by decide +kernel
theorem dX6_about_91 : decode cX6_about 91 = .ok (.invokevirtual 82, 3) := by decide +kernel
theorem dX6_about_94 : decode cX6_about 94 = .ok (.ireturn, 1) := by decide +kernel
theorem dX6_about_95 : decode cX6_about 95 = .ok (.aload_n 0, 1) := by decide +kernel
theorem dX6_about_96 : decode cX6_about 96 = .ok (.getfield 19, 3) := by decide +kernel
theorem dX6_about_99 : decode cX6_about 99 = .ok (.getfield 96, 3) := by decide +kernel
theorem dX6_about_102 : decode cX6_about 102 = .ok (.invokevirtual 82, 3) := by decide +kernel
theorem dX6_about_105 : decode cX6_about 105 = .ok (.ireturn, 1) := by decide +kernel
theorem dX6_about_106 : decode cX6_about 106 = .ok (.aload_n 0, 1) := by decide +kernel
theorem dX6_about_107 : decode cX6_about 107 = .ok (.getfield 19, 3) := by decide +kernel
theorem dX6_about_110 : decode cX6_about 110 = .ok (.getfield 99, 3) := by decide +kernel
theorem dX6_about_113 : decode cX6_about 113 = .ok (.invokevirtual 82, 3) := by decide +kernel
theorem dX6_about_116 : decode cX6_about 116 = .ok (.ireturn, 1) := by decide +kernel
theorem dX6_about_117 : decode cX6_about 117 = .ok (.aload_n 0, 1) := by decide +kernel
theorem dX6_about_118 : decode cX6_about 118 = .ok (.getfield 19, 3) := by decide +kernel
theorem dX6_about_121 : decode cX6_about 121 = .ok (.getfield 102, 3) := by decide +kernel
theorem dX6_about_124 : decode cX6_about 124 = .ok (.invokevirtual 82, 3) := by decide +kernel
theorem dX6_about_127 : decode cX6_about 127 = .ok (.ireturn, 1) := by decide +kernel
theorem dX6_about_128 : decode cX6_about 128 = .ok (.aload_n 0, 1) := by decide +kernel
theorem dX6_about_129 : decode cX6_about 129 = .ok (.getfield 19, 3) := by decide +kernel
theorem dX6_about_132 : decode cX6_about 132 = .ok (.getfield 78, 3) := by decide +kernel
theorem dX6_about_135 : decode cX6_about 135 = .ok (.invokevirtual 82, 3) := by decide +kernel
theorem dX6_about_138 : decode cX6_about 138 = .ok (.ireturn, 1) := by decide +kernel
theorem dX6_about_139 : decode cX6_about 139 = .ok (.aload_n 0, 1) := by decide +kernel
theorem dX6_about_140 : decode cX6_about 140 = .ok (.getfield 19, 3) := by decide +kernel
theorem dX6_about_143 : decode cX6_about 143 = .ok (.iconst 2, 1) := by decide +kernel
theorem dX6_about_144 : decode cX6_about 144 = .ok (.invokevirtual 105, 3) := by decide +kernel
theorem dX6_about_147 : decode cX6_about 147 = .ok (.ireturn, 1) := by decide +kernel
theorem dX6_about_148 : decode cX6_about 148 = .ok (.aload_n 0, 1) := by decide +kernel
theorem dX6_about_149 : decode cX6_about 149 = .ok (.getfield 19, 3) := by decide +kernel
theorem dX6_about_152 : decode cX6_about 152 = .ok (.iconst 1, 1) := by decide +kernel
theorem dX6_about_153 : decode cX6_about 153 = .ok (.invokevirtual 105, 3) := by decide +kernel
theorem dX6_about_156 : decode cX6_about 156 = .ok (.ireturn, 1) := by decide +kernel
theorem dX6_about_157 : decode cX6_about 157 = .ok (.aload_n 0, 1) := by decide +kernel
theorem dX6_about_158 : decode cX6_about 158 = .ok (.getfield 19, 3) := by decide +kernel
theorem dX6_about_161 : decode cX6_about 161 = .ok (.getfield 78, 3) := by decide +kernel
theorem dX6_about_164 : decode cX6_about 164 = .ok (.iconst 3, 1) := by decide +kernel
theorem dX6_about_165 : decode cX6_about 165 = .ok (.invokevirtual 109, 3) := by decide +kernel
theorem dX6_about_168 : decode cX6_about 168 = .ok (.ireturn, 1) := by decide +kernel
theorem dX6_about_169 : decode cX6_about 169 = .ok (.aload_n 0, 1) := by decide +kernel
theorem dX6_about_170 : decode cX6_about 170 = .ok (.getfield 19, 3) := by decide +kernel
theorem dX6_about_173 : decode cX6_about 173 = .ok (.getfield 99, 3) := by decide +kernel
theorem dX6_about_176 : decode cX6_about 176 = .ok (.iconst 1, 1) := by decide +kernel
theorem dX6_about_177 : decode cX6_about 177 = .ok (.invokevirtual 109, 3) := by decide +kernel
theorem dX6_about_180 : decode cX6_about 180 = .ok (.ireturn, 1) := by decide +kernel
theorem dX6_about_181 : decode cX6_about 181 = .ok (.aload_n 0, 1) := by decide +kernel
theorem dX6_about_182 : decode cX6_about 182 = .ok (.getfield 19, 3) := by decide +kernel
theorem dX6_about_185 : decode cX6_about 185 = .ok (.getfield 78, 3) := by decide +kernel
theorem dX6_about_188 : decode cX6_about 188 = .ok (.bipush 6, 2) := by decide +kernel
theorem dX6_about_190 : decode cX6_about 190 = .ok (.invokevirtual 109, 3) := by decide +kernel
theorem dX6_about_193 : decode cX6_about 193 = .ok (.ireturn, 1) := by decide +kernel
set_option maxRecDepth 20000 in
theorem ggX6_convoy_X6_checkExists : GoodIn wsX6_convoy wsX6_checkExists := goodIn_ca (goodIn_r _ [7, 8, 9, 10, 11, 12, 13, 14, 15, 85, 86, 87, 88] (by decide +kernel) (by decide +kernel)) (goodIn_sub (fun _ h => List.mem_cons_of_mem _ (List.mem_append_left _ (List.mem_append_right _ h))) (by decide +kernel))
set_option maxRecDepth 20000 in
theorem gX6_convoy_X6_checkExists : GoodIn wsX6_convoy (va_wsS RX6 112 yX6_checkExists wsX6_checkExists) := goodIn_app (goodIn_of _ (by decide +kernel)) ggX6_convoy_X6_checkExists
set_option maxRecDepth 20000 in
theorem ggX6_convoy_X6_checkRange : GoodIn wsX6_convoy wsX6_checkRange := goodIn_ca (goodIn_r _ [18, 19, 20, 6, 21, 22, 23, 24, 25, 26] (by decide +kernel) (by decide +kernel)) (goodIn_sub (fun _ h => List.mem_cons_of_mem _ (List.mem_append_right _ h)) (by decide +kernel))
set_option maxRecDepth 20000 in
theorem gX6_convoy_X6_checkRange : GoodIn wsX6_convoy (va_wsS RX6 45 yX6_checkRange wsX6_checkRange) := goodIn_app (goodIn_of _ (by decide +kernel)) ggX6_convoy_X6_checkRange
set_option maxRecDepth 20000 in
theorem ggX6_convoy_X5_get : GoodIn wsX6_convoy wsX5_get := goodIn_r _ [30, 31, 15, 32, 85, 86, 87, 88] (by decide +kernel) (by decide +kernel)
set_option maxRecDepth 20000 in
theorem gX6_convoy_X5_get : GoodIn wsX6_convoy (wsV RX6 116 RX5 yX5_get wsX5_get) := goodIn_app (goodIn_of _ (by decide +kernel)) ggX6_convoy_X5_get
set_option maxRecDepth 20000 in
theorem ggX6_convoy_X2_size : GoodIn wsX6_convoy wsX2_size := goodIn_r _ [37, 38, 89, 90, 91] (by decide +kernel) (by decide +kernel)
set_option maxRecDepth 20000 in
theorem gX6_convoy_X2_size : GoodIn wsX6_convoy (wsV RX6 124 RX2 yX2_size wsX2_size) := goodIn_app (goodIn_of _ (by decide +kernel)) ggX6_convoy_X2_size
set_option maxRecDepth 20000 in
theorem ggX6_convoy_X4_slowestSpeed : GoodIn wsX6_convoy wsX4_slowestSpeed := goodIn_r _ [43, 44, 45, 46, 47, 48, 49, 50, 34, 35, 36, 37, 38, 51, 52, 53, 54, 55, 56, 57, 28, 29, 13, 30, 31, 15, 32, 73, 74, 75, 76, 77, 78, 79, 80, 81, 82, 83, 84, 89, 90, 91, 85, 86, 87, 88] (by decide +kernel) (by decide +kernel)
set_option maxRecDepth 20000 in
theorem gX6_convoy_X4_slowestSpeed : GoodIn wsX6_convoy (wsV RX6 129 RX4 yX4_slowestSpeed wsX4_slowestSpeed) := goodIn_app (goodIn_of _ (by decide +kernel)) ggX6_convoy_X4_slowestSpeed
set_option maxRecDepth 20000 in
theorem ggX6_convoy_X4_litersWith : GoodIn wsX6_convoy wsX4_litersWith := goodIn_r _ [61, 44, 45, 50, 34, 35, 36, 37, 38, 51, 52, 53, 54, 55, 56, 57, 28, 29, 13, 30, 31, 15, 32, 73, 74, 75, 76, 77, 78, 79, 80, 81, 82, 83, 84, 89, 90, 91, 85, 86, 87, 88] (by decide +kernel) (by decide +kernel)
set_option maxRecDepth 20000 in
theorem gX6_convoy_X4_litersWith : GoodIn wsX6_convoy (wsV RX6 132 RX4 yX4_litersWith wsX4_litersWith) := goodIn_app (goodIn_of _ (by decide +kernel)) ggX6_convoy_X4_litersWith
set_option maxRecDepth 20000 in
theorem ggX6_convoy_X4_isAtEnd : GoodIn wsX6_convoy wsX4_isAtEnd := goodIn_r _ [65, 66, 67, 57, 28, 29, 13, 30, 31, 15, 32, 73, 74, 75, 76, 77, 78, 79, 80, 81, 82, 83, 84, 85, 86, 87, 88] (by decide +kernel) (by decide +kernel)
set_option maxRecDepth 20000 in
theorem gX6_convoy_X4_isAtEnd : GoodIn wsX6_convoy (wsV RX6 135 RX4 yX4_isAtEnd wsX4_isAtEnd) := goodIn_app (goodIn_of _ (by decide +kernel)) ggX6_convoy_X4_isAtEnd
theorem dX6_convoy_0 : decode cX6_convoy 0 = .ok (.aload_n 0, 1) := by decide +kernel
theorem dX6_convoy_1 : decode cX6_convoy 1 = .ok (.getfield 19, 3) := by decide +kernel
theorem dX6_convoy_4 : decode cX6_convoy 4 = .ok (.getfield 102, 3) := by decide +kernel
theorem dX6_convoy_7 : decode cX6_convoy 7 = .ok (.iload_n 1, 1) := by decide +kernel
theorem dX6_convoy_8 : decode cX6_convoy 8 = .ok (.invokestatic 112, 3) := by decide +kernel
theorem dX6_convoy_11 : decode cX6_convoy 11 = .ok (.iload_n 2, 1) := by decide +kernel
theorem dX6_convoy_12 : decode cX6_convoy 12 = .ok (.iconst 0, 1) := by decide +kernel
theorem dX6_convoy_13 : decode cX6_convoy 13 = .ok (.bipush 7, 2) := by decide +kernel
theorem dX6_convoy_15 : decode cX6_convoy 15 = .ok (.invokestatic 45, 3) := by decide +kernel
theorem dX6_convoy_18 : decode cX6_convoy 18 = .ok (.iload_n 2, 1) := by decide +kernel
theorem dX6_convoy_19 : decode cX6_convoy 19 = .ok (.tableswitch 123 0 6 #[41, 54, 66, 75, 88, 101, 114], 41) := by decide +kernel
theorem dX6_convoy_60 : decode cX6_convoy 60 = .ok (.aload_n 0, 1) := by decide +kernel
theorem dX6_convoy_61 : decode cX6_convoy 61 = .ok (.getfield 19, 3) := by decide +kernel
theorem dX6_convoy_64 : decode cX6_convoy 64 = .ok (.getfield 102, 3) := by decide +kernel
theorem dX6_convoy_67 : decode cX6_convoy 67 = .ok (.iload_n 1, 1) := by decide +kernel
theorem dX6_convoy_68 : decode cX6_convoy 68 = .ok (.iconst 0, 1) := by decide +kernel
theorem dX6_convoy_69 : decode cX6_convoy 69 = .ok (.invokevirtual 116, 3) := by decide +kernel
theorem dX6_convoy_72 : decode cX6_convoy 72 = .ok (.ireturn, 1) := by decide +kernel
theorem dX6_convoy_73 : decode cX6_convoy 73 = .ok (.aload_n 0, 1) := by decide +kernel
theorem dX6_convoy_74 : decode cX6_convoy 74 = .ok (.getfield 19, 3) := by decide +kernel
theorem dX6_convoy_77 : decode cX6_convoy 77 = .ok (.getfield 120, 3) := by decide +kernel
theorem dX6_convoy_80 : decode cX6_convoy 80 = .ok (.iload_n 1, 1) := by decide +kernel
theorem dX6_convoy_81 : decode cX6_convoy 81 = .ok (.invokevirtual 124, 3) := by decide +kernel
theorem dX6_convoy_84 : decode cX6_convoy 84 = .ok (.ireturn, 1) := by decide +kernel
theorem dX6_convoy_85 : decode cX6_convoy 85 = .ok (.aload_n 0, 1) := by decide +kernel
theorem dX6_convoy_86 : decode cX6_convoy 86 = .ok (.getfield 19, 3) := by decide +kernel
theorem dX6_convoy_89 : decode cX6_convoy 89 = .ok (.iload_n 1, 1) := by decide +kernel
theorem dX6_convoy_90 : decode cX6_convoy 90 = .ok (.invokevirtual 129, 3) := by decide +kernel
theorem dX6_convoy_93 : decode cX6_convoy 93 = .ok (.ireturn, 1) := by decide +kernel
theorem dX6_convoy_94 : decode cX6_convoy 94 = .ok (.aload_n 0, 1) := by decide +kernel
theorem dX6_convoy_95 : decode cX6_convoy 95 = .ok (.getfield 19, 3) := by decide +kernel
theorem dX6_convoy_98 : decode cX6_convoy 98 = .ok (.getfield 102, 3) := by decide +kernel
theorem dX6_convoy_101 : decode cX6_convoy 101 = .ok (.iload_n 1, 1) := by decide +kernel
theorem dX6_convoy_102 : decode cX6_convoy 102 = .ok (.iconst 1, 1) := by decide +kernel
theorem dX6_convoy_103 : decode cX6_convoy 103 = .ok (.invokevirtual 116, 3) := by decide +kernel
theorem dX6_convoy_106 : decode cX6_convoy 106 = .ok (.ireturn, 1) := by decide +kernel
theorem dX6_convoy_107 : decode cX6_convoy 107 = .ok (.aload_n 0, 1) := by decide +kernel
theorem dX6_convoy_108 : decode cX6_convoy 108 = .ok (.getfield 19, 3) := by decide +kernel
theorem dX6_convoy_111 : decode cX6_convoy 111 = .ok (.getfield 102, 3) := by decide +kernel
theorem dX6_convoy_114 : decode cX6_convoy 114 = .ok (.iload_n 1, 1) := by decide +kernel
theorem dX6_convoy_115 : decode cX6_convoy 115 = .ok (.iconst 2, 1) := by decide +kernel
theorem dX6_convoy_116 : decode cX6_convoy 116 = .ok (.invokevirtual 116, 3) := by decide +kernel
theorem dX6_convoy_119 : decode cX6_convoy 119 = .ok (.ireturn, 1) := by decide +kernel
theorem dX6_convoy_120 : decode cX6_convoy 120 = .ok (.aload_n 0, 1) := by decide +kernel
theorem dX6_convoy_121 : decode cX6_convoy 121 = .ok (.getfield 19, 3) := by decide +kernel
theorem dX6_convoy_124 : decode cX6_convoy 124 = .ok (.getfield 102, 3) := by decide +kernel
theorem dX6_convoy_127 : decode cX6_convoy 127 = .ok (.iload_n 1, 1) := by decide +kernel
theorem dX6_convoy_128 : decode cX6_convoy 128 = .ok (.iconst 3, 1) := by decide +kernel
theorem dX6_convoy_129 : decode cX6_convoy 129 = .ok (.invokevirtual 116, 3) := by decide +kernel
theorem dX6_convoy_132 : decode cX6_convoy 132 = .ok (.ireturn, 1) := by decide +kernel
theorem dX6_convoy_133 : decode cX6_convoy 133 = .ok (.aload_n 0, 1) := by decide +kernel
theorem dX6_convoy_134 : decode cX6_convoy 134 = .ok (.getfield 19, 3) := by decide +kernel
theorem dX6_convoy_137 : decode cX6_convoy 137 = .ok (.iload_n 1, 1) := by decide +kernel
theorem dX6_convoy_138 : decode cX6_convoy 138 = .ok (.invokevirtual 132, 3) := by decide +kernel
theorem dX6_convoy_141 : decode cX6_convoy 141 = .ok (.ireturn, 1) := by decide +kernel
theorem dX6_convoy_142 : decode cX6_convoy 142 = .ok (.aload_n 0, 1) := by decide +kernel
theorem dX6_convoy_143 : decode cX6_convoy 143 = .ok (.getfield 19, 3) := by decide +kernel
theorem dX6_convoy_146 : decode cX6_convoy 146 = .ok (.iload_n 1, 1) := by decide +kernel
theorem dX6_convoy_147 : decode cX6_convoy 147 = .ok (.invokevirtual 135, 3) := by decide +kernel
theorem dX6_convoy_150 : decode cX6_convoy 150 = .ok (.ifCond .eq 7, 3) := by decide +kernel
theorem dX6_convoy_153 : decode cX6_convoy 153 = .ok (.iconst 1, 1) := by decide +kernel
theorem dX6_convoy_154 : decode cX6_convoy 154 = .ok (.goto 4, 3) := by decide +kernel
theorem dX6_convoy_157 : decode cX6_convoy 157 = .ok (.iconst 0, 1) := by decide +kernel
theorem dX6_convoy_158 : decode cX6_convoy 158 = .ok (.ireturn, 1) := by decide +kernel
set_option maxRecDepth 20000 in
theorem ggX6_member_X6_checkExists : GoodIn wsX6_member wsX6_checkExists := goodIn_ca (goodIn_r _ [7, 8, 9, 10, 11, 12, 13, 14, 15, 46, 47, 48, 49] (by decide +kernel) (by decide +kernel)) (goodIn_sub (fun _ h => List.mem_cons_of_mem _ (List.mem_append_left _ (List.mem_append_right _ h))) (by decide +kernel))
set_option maxRecDepth 20000 in
theorem gX6_member_X6_checkExists : GoodIn wsX6_member (va_wsS RX6 112 yX6_checkExists wsX6_checkExists) := goodIn_app (goodIn_of _ (by decide +kernel)) ggX6_member_X6_checkExists
set_option maxRecDepth 20000 in
theorem ggX6_member_X6_refuseArgumentIf : GoodIn wsX6_member wsX6_refuseArgumentIf := goodIn_ca (goodIn_r _ [18, 19, 20] (by decide +kernel) (by decide +kernel)) (goodIn_sub (fun _ h => List.mem_cons_of_mem _ (List.mem_append_right _ h)) (by decide +kernel))
set_option maxRecDepth 20000 in
theorem gX6_member_X6_refuseArgumentIf : GoodIn wsX6_member (va_wsS RX6 139 yX6_refuseArgumentIf wsX6_refuseArgumentIf) := goodIn_app (goodIn_of _ (by decide +kernel)) ggX6_member_X6_refuseArgumentIf
set_option maxRecDepth 20000 in
theorem ggX6_member_X2_get : GoodIn wsX6_member wsX2_get := goodIn_r _ [25, 26, 27, 28, 50, 51, 52] (by decide +kernel) (by decide +kernel)
set_option maxRecDepth 20000 in
theorem gX6_member_X2_get : GoodIn wsX6_member (wsV RX6 142 RX2 yX2_get wsX2_get) := goodIn_app (goodIn_of _ (by decide +kernel)) ggX6_member_X2_get
theorem dX6_member_0 : decode cX6_member 0 = .ok (.aload_n 0, 1) := by decide +kernel
theorem dX6_member_1 : decode cX6_member 1 = .ok (.getfield 19, 3) := by decide +kernel
theorem dX6_member_4 : decode cX6_member 4 = .ok (.getfield 102, 3) := by decide +kernel
theorem dX6_member_7 : decode cX6_member 7 = .ok (.iload_n 1, 1) := by decide +kernel
theorem dX6_member_8 : decode cX6_member 8 = .ok (.invokestatic 112, 3) := by decide +kernel
theorem dX6_member_11 : decode cX6_member 11 = .ok (.iload_n 2, 1) := by decide +kernel
theorem dX6_member_12 : decode cX6_member 12 = .ok (.ifCond .ge 7, 3) := by decide +kernel
theorem dX6_member_15 : decode cX6_member 15 = .ok (.iconst 1, 1) := by decide +kernel
theorem dX6_member_16 : decode cX6_member 16 = .ok (.goto 4, 3) := by decide +kernel
theorem dX6_member_19 : decode cX6_member 19 = .ok (.iconst 0, 1) := by decide +kernel
theorem dX6_member_20 : decode cX6_member 20 = .ok (.invokestatic 139, 3) := by decide +kernel
theorem dX6_member_23 : decode cX6_member 23 = .ok (.aload_n 0, 1) := by decide +kernel
theorem dX6_member_24 : decode cX6_member 24 = .ok (.getfield 19, 3) := by decide +kernel
theorem dX6_member_27 : decode cX6_member 27 = .ok (.getfield 120, 3) := by decide +kernel
theorem dX6_member_30 : decode cX6_member 30 = .ok (.iload_n 1, 1) := by decide +kernel
theorem dX6_member_31 : decode cX6_member 31 = .ok (.iload_n 2, 1) := by decide +kernel
theorem dX6_member_32 : decode cX6_member 32 = .ok (.invokevirtual 142, 3) := by decide +kernel
theorem dX6_member_35 : decode cX6_member 35 = .ok (.ireturn, 1) := by decide +kernel
set_option maxRecDepth 20000 in
theorem ggX6_vehicle_X6_checkExists : GoodIn wsX6_vehicle wsX6_checkExists := goodIn_ca (goodIn_r _ [6, 7, 8, 9, 10, 11, 12, 13, 14, 49, 50, 51, 52] (by decide +kernel) (by decide +kernel)) (goodIn_sub (fun _ h => List.mem_cons_of_mem _ (List.mem_append_left _ (List.mem_append_right _ h))) (by decide +kernel))
set_option maxRecDepth 20000 in
theorem gX6_vehicle_X6_checkExists : GoodIn wsX6_vehicle (va_wsS RX6 112 yX6_checkExists wsX6_checkExists) := goodIn_app (goodIn_of _ (by decide +kernel)) ggX6_vehicle_X6_checkExists
set_option maxRecDepth 20000 in
theorem ggX6_vehicle_X6_checkRange : GoodIn wsX6_vehicle wsX6_checkRange := goodIn_ca (goodIn_r _ [17, 18, 19, 5, 20, 21, 22, 23, 24, 25] (by decide +kernel) (by decide +kernel)) (goodIn_sub (fun _ h => List.mem_cons_of_mem _ (List.mem_append_right _ h)) (by decide +kernel))
set_option maxRecDepth 20000 in
theorem gX6_vehicle_X6_checkRange : GoodIn wsX6_vehicle (va_wsS RX6 45 yX6_checkRange wsX6_checkRange) := goodIn_app (goodIn_of _ (by decide +kernel)) ggX6_vehicle_X6_checkRange
set_option maxRecDepth 20000 in
theorem ggX6_vehicle_X5_get : GoodIn wsX6_vehicle wsX5_get := goodIn_r _ [29, 30, 14, 31, 49, 50, 51, 52] (by decide +kernel) (by decide +kernel)
set_option maxRecDepth 20000 in
theorem gX6_vehicle_X5_get : GoodIn wsX6_vehicle (wsV RX6 116 RX5 yX5_get wsX5_get) := goodIn_app (goodIn_of _ (by decide +kernel)) ggX6_vehicle_X5_get
theorem dX6_vehicle_0 : decode cX6_vehicle 0 = .ok (.aload_n 0, 1) := by decide +kernel
theorem dX6_vehicle_1 : decode cX6_vehicle 1 = .ok (.getfield 19, 3) := by decide +kernel
theorem dX6_vehicle_4 : decode cX6_vehicle 4 = .ok (.getfield 78, 3) := by decide +kernel
theorem dX6_vehicle_7 : decode cX6_vehicle 7 = .ok (.iload_n 1, 1) := by decide +kernel
theorem dX6_vehicle_8 : decode cX6_vehicle 8 = .ok (.invokestatic 112, 3) := by decide +kernel
theorem dX6_vehicle_11 : decode cX6_vehicle 11 = .ok (.iload_n 2, 1) := by decide +kernel
theorem dX6_vehicle_12 : decode cX6_vehicle 12 = .ok (.iconst 0, 1) := by decide +kernel
theorem dX6_vehicle_13 : decode cX6_vehicle 13 = .ok (.bipush 6, 2) := by decide +kernel
theorem dX6_vehicle_15 : decode cX6_vehicle 15 = .ok (.invokestatic 45, 3) := by decide +kernel
theorem dX6_vehicle_18 : decode cX6_vehicle 18 = .ok (.aload_n 0, 1) := by decide +kernel
theorem dX6_vehicle_19 : decode cX6_vehicle 19 = .ok (.getfield 19, 3) := by decide +kernel
theorem dX6_vehicle_22 : decode cX6_vehicle 22 = .ok (.getfield 78, 3) := by decide +kernel
theorem dX6_vehicle_25 : decode cX6_vehicle 25 = .ok (.iload_n 1, 1) := by decide +kernel
theorem dX6_vehicle_26 : decode cX6_vehicle 26 = .ok (.iload_n 2, 1) := by decide +kernel
theorem dX6_vehicle_27 : decode cX6_vehicle 27 = .ok (.invokevirtual 116, 3) := by decide +kernel
theorem dX6_vehicle_30 : decode cX6_vehicle 30 = .ok (.ireturn, 1) := by decide +kernel
set_option maxRecDepth 20000 in
theorem ggX6_gate_X6_checkExists : GoodIn wsX6_gate wsX6_checkExists := goodIn_ca (goodIn_r _ [6, 7, 8, 9, 10, 11, 12, 13, 14, 61, 62, 63, 64] (by decide +kernel) (by decide +kernel)) (goodIn_sub (fun _ h => List.mem_cons_of_mem _ (List.mem_append_left _ (List.mem_append_right _ h))) (by decide +kernel))
set_option maxRecDepth 20000 in
theorem gX6_gate_X6_checkExists : GoodIn wsX6_gate (va_wsS RX6 112 yX6_checkExists wsX6_checkExists) := goodIn_app (goodIn_of _ (by decide +kernel)) ggX6_gate_X6_checkExists
set_option maxRecDepth 20000 in
theorem ggX6_gate_X6_checkRange : GoodIn wsX6_gate wsX6_checkRange := goodIn_ca (goodIn_r _ [17, 18, 19, 5, 20, 21, 22, 23, 24, 25] (by decide +kernel) (by decide +kernel)) (goodIn_sub (fun _ h => List.mem_cons_of_mem _ (List.mem_append_right _ h)) (by decide +kernel))
set_option maxRecDepth 20000 in
theorem gX6_gate_X6_checkRange : GoodIn wsX6_gate (va_wsS RX6 45 yX6_checkRange wsX6_checkRange) := goodIn_app (goodIn_of _ (by decide +kernel)) ggX6_gate_X6_checkRange
set_option maxRecDepth 20000 in
theorem ggX6_gate_X4_closedFor : GoodIn wsX6_gate wsX4_closedFor := goodIn_r _ [30, 31, 32, 33, 34, 35, 36, 37, 38, 39, 12, 40, 41, 14, 42, 49, 50, 51, 52, 53, 54, 55, 56, 57, 58, 59, 60, 61, 62, 63, 64] (by decide +kernel) (by decide +kernel)
set_option maxRecDepth 20000 in
theorem gX6_gate_X4_closedFor : GoodIn wsX6_gate (wsV RX6 143 RX4 yX4_closedFor wsX4_closedFor) := goodIn_app (goodIn_of _ (by decide +kernel)) ggX6_gate_X4_closedFor
set_option maxRecDepth 20000 in
theorem ggX6_gate_X5_get : GoodIn wsX6_gate wsX5_get := goodIn_r _ [40, 41, 14, 42, 61, 62, 63, 64] (by decide +kernel) (by decide +kernel)
set_option maxRecDepth 20000 in
theorem gX6_gate_X5_get : GoodIn wsX6_gate (wsV RX6 116 RX5 yX5_get wsX5_get) := goodIn_app (goodIn_of _ (by decide +kernel)) ggX6_gate_X5_get
theorem dX6_gate_0 : decode cX6_gate 0 = .ok (.aload_n 0, 1) := by decide +kernel
theorem dX6_gate_1 : decode cX6_gate 1 = .ok (.getfield 19, 3) := by decide +kernel
theorem dX6_gate_4 : decode cX6_gate 4 = .ok (.getfield 93, 3) := by decide +kernel
theorem dX6_gate_7 : decode cX6_gate 7 = .ok (.iload_n 1, 1) := by decide +kernel
theorem dX6_gate_8 : decode cX6_gate 8 = .ok (.invokestatic 112, 3) := by decide +kernel
theorem dX6_gate_11 : decode cX6_gate 11 = .ok (.iload_n 2, 1) := by decide +kernel
theorem dX6_gate_12 : decode cX6_gate 12 = .ok (.iconst 0, 1) := by decide +kernel
theorem dX6_gate_13 : decode cX6_gate 13 = .ok (.iconst 5, 1) := by decide +kernel
theorem dX6_gate_14 : decode cX6_gate 14 = .ok (.invokestatic 45, 3) := by decide +kernel
theorem dX6_gate_17 : decode cX6_gate 17 = .ok (.iload_n 2, 1) := by decide +kernel
theorem dX6_gate_18 : decode cX6_gate 18 = .ok (.lookupswitch 52 #[(4, 26), (5, 43)], 26) := by decide +kernel
theorem dX6_gate_44 : decode cX6_gate 44 = .ok (.aload_n 0, 1) := by decide +kernel
theorem dX6_gate_45 : decode cX6_gate 45 = .ok (.getfield 19, 3) := by decide +kernel
theorem dX6_gate_48 : decode cX6_gate 48 = .ok (.iload_n 1, 1) := by decide +kernel
theorem dX6_gate_49 : decode cX6_gate 49 = .ok (.invokevirtual 143, 3) := by decide +kernel
theorem dX6_gate_52 : decode cX6_gate 52 = .ok (.ifCond .le 7, 3) := by decide +kernel
theorem dX6_gate_55 : decode cX6_gate 55 = .ok (.iconst 1, 1) := by decide +kernel
theorem dX6_gate_56 : decode cX6_gate 56 = .ok (.goto 4, 3) := by decide +kernel
theorem dX6_gate_59 : decode cX6_gate 59 = .ok (.iconst 0, 1) := by decide +kernel
theorem dX6_gate_60 : decode cX6_gate 60 = .ok (.ireturn, 1) := by decide +kernel
theorem dX6_gate_61 : decode cX6_gate 61 = .ok (.aload_n 0, 1) := by decide +kernel
theorem dX6_gate_62 : decode cX6_gate 62 = .ok (.getfield 19, 3) := by decide +kernel
theorem dX6_gate_65 : decode cX6_gate 65 = .ok (.iload_n 1, 1) := by decide +kernel
theorem dX6_gate_66 : decode cX6_gate 66 = .ok (.invokevirtual 143, 3) := by decide +kernel
theorem dX6_gate_69 : decode cX6_gate 69 = .ok (.ireturn, 1) := by decide +kernel
theorem dX6_gate_70 : decode cX6_gate 70 = .ok (.aload_n 0, 1) := by decide +kernel
theorem dX6_gate_71 : decode cX6_gate 71 = .ok (.getfield 19, 3) := by decide +kernel
theorem dX6_gate_74 : decode cX6_gate 74 = .ok (.getfield 93, 3) := by decide +kernel
theorem dX6_gate_77 : decode cX6_gate 77 = .ok (.iload_n 1, 1) := by decide +kernel
theorem dX6_gate_78 : decode cX6_gate 78 = .ok (.iload_n 2, 1) := by decide +kernel
theorem dX6_gate_79 : decode cX6_gate 79 = .ok (.invokevirtual 116, 3) := by decide +kernel
theorem dX6_gate_82 : decode cX6_gate 82 = .ok (.ireturn, 1) := by decide +kernel
set_option maxRecDepth 20000 in
theorem ggX6_bay_X6_checkExists : GoodIn wsX6_bay wsX6_checkExists := goodIn_ca (goodIn_r _ [7, 8, 9, 10, 11, 12, 13, 14, 15, 62, 63, 64, 65] (by decide +kernel) (by decide +kernel)) (goodIn_sub (fun _ h => List.mem_cons_of_mem _ (List.mem_append_left _ (List.mem_append_right _ h))) (by decide +kernel))
set_option maxRecDepth 20000 in
theorem gX6_bay_X6_checkExists : GoodIn wsX6_bay (va_wsS RX6 112 yX6_checkExists wsX6_checkExists) := goodIn_app (goodIn_of _ (by decide +kernel)) ggX6_bay_X6_checkExists
set_option maxRecDepth 20000 in
theorem ggX6_bay_X6_checkRange : GoodIn wsX6_bay wsX6_checkRange := goodIn_ca (goodIn_r _ [18, 19, 20, 6, 21, 22, 23, 24, 25, 26] (by decide +kernel) (by decide +kernel)) (goodIn_sub (fun _ h => List.mem_cons_of_mem _ (List.mem_append_right _ h)) (by decide +kernel))
set_option maxRecDepth 20000 in
theorem gX6_bay_X6_checkRange : GoodIn wsX6_bay (va_wsS RX6 45 yX6_checkRange wsX6_checkRange) := goodIn_app (goodIn_of _ (by decide +kernel)) ggX6_bay_X6_checkRange
set_option maxRecDepth 20000 in
theorem ggX6_bay_X2_size : GoodIn wsX6_bay wsX2_size := goodIn_r _ [31, 32, 66, 67, 68] (by decide +kernel) (by decide +kernel)
set_option maxRecDepth 20000 in
theorem gX6_bay_X2_size : GoodIn wsX6_bay (wsV RX6 124 RX2 yX2_size wsX2_size) := goodIn_app (goodIn_of _ (by decide +kernel)) ggX6_bay_X2_size
set_option maxRecDepth 20000 in
theorem ggX6_bay_X2_get : GoodIn wsX6_bay wsX2_get := goodIn_r _ [36, 37, 32, 38, 66, 67, 68] (by decide +kernel) (by decide +kernel)
set_option maxRecDepth 20000 in
theorem gX6_bay_X2_get : GoodIn wsX6_bay (wsV RX6 142 RX2 yX2_get wsX2_get) := goodIn_app (goodIn_of _ (by decide +kernel)) ggX6_bay_X2_get
set_option maxRecDepth 20000 in
theorem ggX6_bay_X5_get : GoodIn wsX6_bay wsX5_get := goodIn_r _ [42, 43, 15, 44, 62, 63, 64, 65] (by decide +kernel) (by decide +kernel)
set_option maxRecDepth 20000 in
theorem gX6_bay_X5_get : GoodIn wsX6_bay (wsV RX6 116 RX5 yX5_get wsX5_get) := goodIn_app (goodIn_of _ (by decide +kernel)) ggX6_bay_X5_get
theorem dX6_bay_0 : decode cX6_bay 0 = .ok (.aload_n 0, 1) := by decide +kernel
theorem dX6_bay_1 : decode cX6_bay 1 = .ok (.getfield 19, 3) := by decide +kernel
theorem dX6_bay_4 : decode cX6_bay 4 = .ok (.getfield 96, 3) := by decide +kernel
theorem dX6_bay_7 : decode cX6_bay 7 = .ok (.iload_n 1, 1) := by decide +kernel
theorem dX6_bay_8 : decode cX6_bay 8 = .ok (.invokestatic 112, 3) := by decide +kernel
theorem dX6_bay_11 : decode cX6_bay 11 = .ok (.iload_n 2, 1) := by decide +kernel
theorem dX6_bay_12 : decode cX6_bay 12 = .ok (.iconst 0, 1) := by decide +kernel
theorem dX6_bay_13 : decode cX6_bay 13 = .ok (.iconst 3, 1) := by decide +kernel
theorem dX6_bay_14 : decode cX6_bay 14 = .ok (.invokestatic 45, 3) := by decide +kernel
theorem dX6_bay_17 : decode cX6_bay 17 = .ok (.iload_n 2, 1) := by decide +kernel
theorem dX6_bay_18 : decode cX6_bay 18 = .ok (.lookupswitch 51 #[(2, 26), (3, 38)], 26) := by decide +kernel
theorem dX6_bay_44 : decode cX6_bay 44 = .ok (.aload_n 0, 1) := by decide +kernel
theorem dX6_bay_45 : decode cX6_bay 45 = .ok (.getfield 19, 3) := by decide +kernel
theorem dX6_bay_48 : decode cX6_bay 48 = .ok (.getfield 146, 3) := by decide +kernel
theorem dX6_bay_51 : decode cX6_bay 51 = .ok (.iload_n 1, 1) := by decide +kernel
theorem dX6_bay_52 : decode cX6_bay 52 = .ok (.invokevirtual 124, 3) := by decide +kernel
theorem dX6_bay_55 : decode cX6_bay 55 = .ok (.ireturn, 1) := by decide +kernel
theorem dX6_bay_56 : decode cX6_bay 56 = .ok (.aload_n 0, 1) := by decide +kernel
theorem dX6_bay_57 : decode cX6_bay 57 = .ok (.getfield 19, 3) := by decide +kernel
theorem dX6_bay_60 : decode cX6_bay 60 = .ok (.getfield 146, 3) := by decide +kernel
theorem dX6_bay_63 : decode cX6_bay 63 = .ok (.iload_n 1, 1) := by decide +kernel
theorem dX6_bay_64 : decode cX6_bay 64 = .ok (.iconst 0, 1) := by decide +kernel
theorem dX6_bay_65 : decode cX6_bay 65 = .ok (.invokevirtual 142, 3) := by decide +kernel
theorem dX6_bay_68 : decode cX6_bay 68 = .ok (.ireturn, 1) := by decide +kernel
theorem dX6_bay_69 : decode cX6_bay 69 = .ok (.aload_n 0, 1) := by decide +kernel
theorem dX6_bay_70 : decode cX6_bay 70 = .ok (.getfield 19, 3) := by decide +kernel
theorem dX6_bay_73 : decode cX6_bay 73 = .ok (.getfield 96, 3) := by decide +kernel
theorem dX6_bay_76 : decode cX6_bay 76 = .ok (.iload_n 1, 1) := by decide +kernel
theorem dX6_bay_77 : decode cX6_bay 77 = .ok (.iload_n 2, 1) := by decide +kernel
theorem dX6_bay_78 : decode cX6_bay 78 = .ok (.invokevirtual 116, 3) := by decide +kernel
theorem dX6_bay_81 : decode cX6_bay 81 = .ok (.ireturn, 1) := by decide +kernel
set_option maxRecDepth 20000 in
theorem ggX6_depot_X6_checkExists : GoodIn wsX6_depot wsX6_checkExists := goodIn_ca (goodIn_r _ [6, 7, 8, 9, 10, 11, 12, 13, 14, 49, 50, 51, 52] (by decide +kernel) (by decide +kernel)) (goodIn_sub (fun _ h => List.mem_cons_of_mem _ (List.mem_append_left _ (List.mem_append_right _ h))) (by decide +kernel))
set_option maxRecDepth 20000 in
theorem gX6_depot_X6_checkExists : GoodIn wsX6_depot (va_wsS RX6 112 yX6_checkExists wsX6_checkExists) := goodIn_app (goodIn_of _ (by decide +kernel)) ggX6_depot_X6_checkExists
set_option maxRecDepth 20000 in
theorem ggX6_depot_X6_checkRange : GoodIn wsX6_depot wsX6_checkRange := goodIn_ca (goodIn_r _ [17, 18, 19, 5, 20, 21, 22, 23, 24, 25] (by decide +kernel) (by decide +kernel)) (goodIn_sub (fun _ h => List.mem_cons_of_mem _ (List.mem_append_right _ h)) (by decide +kernel))
set_option maxRecDepth 20000 in
theorem gX6_depot_X6_checkRange : GoodIn wsX6_depot (va_wsS RX6 45 yX6_checkRange wsX6_checkRange) := goodIn_app (goodIn_of _ (by decide +kernel)) ggX6_depot_X6_checkRange
set_option maxRecDepth 20000 in
theorem ggX6_depot_X5_get : GoodIn wsX6_depot wsX5_get := goodIn_r _ [29, 30, 14, 31, 49, 50, 51, 52] (by decide +kernel) (by decide +kernel)
set_option maxRecDepth 20000 in
theorem gX6_depot_X5_get : GoodIn wsX6_depot (wsV RX6 116 RX5 yX5_get wsX5_get) := goodIn_app (goodIn_of _ (by decide +kernel)) ggX6_depot_X5_get
theorem dX6_depot_0 : decode cX6_depot 0 = .ok (.aload_n 0, 1) := by decide +kernel
theorem dX6_depot_1 : decode cX6_depot 1 = .ok (.getfield 19, 3) := by decide +kernel
theorem dX6_depot_4 : decode cX6_depot 4 = .ok (.getfield 99, 3) := by decide +kernel
theorem dX6_depot_7 : decode cX6_depot 7 = .ok (.iload_n 1, 1) := by decide +kernel
theorem dX6_depot_8 : decode cX6_depot 8 = .ok (.invokestatic 112, 3) := by decide +kernel
theorem dX6_depot_11 : decode cX6_depot 11 = .ok (.iload_n 2, 1) := by decide +kernel
theorem dX6_depot_12 : decode cX6_depot 12 = .ok (.iconst 0, 1) := by decide +kernel
theorem dX6_depot_13 : decode cX6_depot 13 = .ok (.iconst 1, 1) := by decide +kernel
theorem dX6_depot_14 : decode cX6_depot 14 = .ok (.invokestatic 45, 3) := by decide +kernel
theorem dX6_depot_17 : decode cX6_depot 17 = .ok (.aload_n 0, 1) := by decide +kernel
theorem dX6_depot_18 : decode cX6_depot 18 = .ok (.getfield 19, 3) := by decide +kernel
theorem dX6_depot_21 : decode cX6_depot 21 = .ok (.getfield 99, 3) := by decide +kernel
theorem dX6_depot_24 : decode cX6_depot 24 = .ok (.iload_n 1, 1) := by decide +kernel
theorem dX6_depot_25 : decode cX6_depot 25 = .ok (.iload_n 2, 1) := by decide +kernel
theorem dX6_depot_26 : decode cX6_depot 26 = .ok (.invokevirtual 116, 3) := by decide +kernel
theorem dX6_depot_29 : decode cX6_depot 29 = .ok (.ireturn, 1) := by decide +kernel
set_option maxRecDepth 20000 in
theorem ggX6_addGate_X4_length : GoodIn wsX6_addGate wsX4_length := goodIn_r _ [8, 9, 118, 119, 120, 121, 122, 123, 124, 125, 126, 127, 128, 129] (by decide +kernel) (by decide +kernel)
set_option maxRecDepth 20000 in
theorem gX6_addGate_X4_length : GoodIn wsX6_addGate (wsV RX6 87 RX4 yX4_length wsX4_length) := goodIn_app (goodIn_of _ (by decide +kernel)) ggX6_addGate_X4_length
set_option maxRecDepth 20000 in
theorem ggX6_addGate_X6_checkRange : GoodIn wsX6_addGate wsX6_checkRange := goodIn_ca (goodIn_r _ [13, 14, 15, 12, 16, 17, 18, 19, 20, 21] (by decide +kernel) (by decide +kernel)) (goodIn_sub (fun _ h => List.mem_cons_of_mem _ (List.mem_append_left _ (List.mem_append_right _ h))) (by decide +kernel))
set_option maxRecDepth 20000 in
theorem gX6_addGate_X6_checkRange : GoodIn wsX6_addGate (va_wsS RX6 45 yX6_checkRange wsX6_checkRange) := goodIn_app (goodIn_of _ (by decide +kernel)) ggX6_addGate_X6_checkRange
set_option maxRecDepth 20000 in
theorem ggX6_addGate_X5_isFull : GoodIn wsX6_addGate wsX5_isFull := goodIn_r _ [26, 27, 28, 130, 131, 132, 133] (by decide +kernel) (by decide +kernel)
set_option maxRecDepth 20000 in
theorem gX6_addGate_X5_isFull : GoodIn wsX6_addGate (wsV RX6 149 RX5 yX5_isFull wsX5_isFull) := goodIn_app (goodIn_of _ (by decide +kernel)) ggX6_addGate_X5_isFull
set_option maxRecDepth 20000 in
theorem ggX6_addGate_X5_rowAt : GoodIn wsX6_addGate wsX5_rowAt := goodIn_r _ [32, 27, 33, 34, 35, 25, 36, 37, 38, 130, 131, 132, 133] (by decide +kernel) (by decide +kernel)
set_option maxRecDepth 20000 in
theorem gX6_addGate_X5_rowAt : GoodIn wsX6_addGate (wsV RX6 150 RX5 yX5_rowAt wsX5_rowAt) := goodIn_app (goodIn_of _ (by decide +kernel)) ggX6_addGate_X5_rowAt
set_option maxRecDepth 20000 in
theorem ggX6_addGate_X6_refuseIf : GoodIn wsX6_addGate wsX6_refuseIf := goodIn_ca (goodIn_r _ [41, 42, 43] (by decide +kernel) (by decide +kernel)) (goodIn_sub (fun _ h => List.mem_cons_of_mem _ (List.mem_append_right _ h)) (by decide +kernel))
set_option maxRecDepth 20000 in
theorem gX6_addGate_X6_refuseIf : GoodIn wsX6_addGate (va_wsS RX6 53 yX6_refuseIf wsX6_refuseIf) := goodIn_app (goodIn_of _ (by decide +kernel)) ggX6_addGate_X6_refuseIf
set_option maxRecDepth 20000 in
theorem ggX6_addGate_X0_remember : GoodIn wsX6_addGate wsX0_remember := goodIn_r _ [48, 49, 50, 51, 52, 53, 54, 55, 56, 57, 58, 59, 60, 61, 62, 63, 64, 65, 66, 67, 68, 69, 7, 70, 9, 71, 72, 73, 74, 75, 76, 77, 78, 79, 80, 81, 82, 83, 84, 25, 85, 27, 38, 86, 87, 88, 89, 90, 91, 92, 93, 94, 95, 96, 97, 98, 99, 134, 135, 136, 137, 138, 118, 119, 120, 121, 122, 123, 124, 125, 126, 127, 128, 129, 130, 131, 132, 133, 139, 140, 141] (by decide +kernel) (by decide +kernel)
set_option maxRecDepth 20000 in
theorem gX6_addGate_X0_remember : GoodIn wsX6_addGate (wsV RX6 153 RX0 yX0_remember wsX0_remember) := goodIn_app (goodIn_of _ (by decide +kernel)) ggX6_addGate_X0_remember
set_option maxRecDepth 20000 in
theorem ggX6_addGate_X4_newGate : GoodIn wsX6_addGate wsX4_newGate := goodIn_r _ [103, 72, 104, 105, 106, 25, 107, 27, 28, 37, 108, 109, 110, 111, 38, 112, 118, 119, 120, 121, 122, 123, 124, 125, 126, 127, 128, 129, 130, 131, 132, 133] (by decide +kernel) (by decide +kernel)
set_option maxRecDepth 20000 in
theorem gX6_addGate_X4_newGate : GoodIn wsX6_addGate (wsV RX6 156 RX4 yX4_newGate wsX4_newGate) := goodIn_app (goodIn_of _ (by decide +kernel)) ggX6_addGate_X4_newGate
theorem dX6_addGate_0 : decode cX6_addGate 0 = .ok (.iload_n 1, 1) := by decide +kernel
theorem dX6_addGate_1 : decode cX6_addGate 1 = .ok (.iconst 1, 1) := by decide +kernel
theorem dX6_addGate_2 : decode cX6_addGate 2 = .ok (.aload_n 0, 1) := by decide +kernel
theorem dX6_addGate_3 : decode cX6_addGate 3 = .ok (.getfield 19, 3) := by decide +kernel
theorem dX6_addGate_6 : decode cX6_addGate 6 = .ok (.invokevirtual 87, 3) := by decide +kernel
theorem dX6_addGate_9 : decode cX6_addGate 9 = .ok (.iconst 1, 1) := by decide +kernel
theorem dX6_addGate_10 : decode cX6_addGate 10 = .ok (.isub, 1) := by decide +kernel
theorem dX6_addGate_11 : decode cX6_addGate 11 = .ok (.invokestatic 45, 3) := by decide +kernel
theorem dX6_addGate_14 : decode cX6_addGate 14 = .ok (.iload_n 2, 1) := by decide +kernel
theorem dX6_addGate_15 : decode cX6_addGate 15 = .ok (.iconst 2, 1) := by decide +kernel
theorem dX6_addGate_16 : decode cX6_addGate 16 = .ok (.bipush 24, 2) := by decide +kernel
theorem dX6_addGate_18 : decode cX6_addGate 18 = .ok (.invokestatic 45, 3) := by decide +kernel
theorem dX6_addGate_21 : decode cX6_addGate 21 = .ok (.iload_n 3, 1) := by decide +kernel
theorem dX6_addGate_22 : decode cX6_addGate 22 = .ok (.iconst 0, 1) := by decide +kernel
theorem dX6_addGate_23 : decode cX6_addGate 23 = .ok (.iload_n 2, 1) := by decide +kernel
theorem dX6_addGate_24 : decode cX6_addGate 24 = .ok (.iconst 1, 1) := by decide +kernel
theorem dX6_addGate_25 : decode cX6_addGate 25 = .ok (.isub, 1) := by decide +kernel
theorem dX6_addGate_26 : decode cX6_addGate 26 = .ok (.invokestatic 45, 3) := by decide +kernel
theorem dX6_addGate_29 : decode cX6_addGate 29 = .ok (.iload 4, 2) := by decide +kernel
theorem dX6_addGate_31 : decode cX6_addGate 31 = .ok (.iconst 0, 1) := by decide +kernel
theorem dX6_addGate_32 : decode cX6_addGate 32 = .ok (.iload_n 2, 1) := by decide +kernel
theorem dX6_addGate_33 : decode cX6_addGate 33 = .ok (.iconst 1, 1) := by decide +kernel
theorem dX6_addGate_34 : decode cX6_addGate 34 = .ok (.isub, 1) := by decide +kernel
theorem dX6_addGate_35 : decode cX6_addGate 35 = .ok (.invokestatic 45, 3) := by decide +kernel
theorem dX6_addGate_38 : decode cX6_addGate 38 = .ok (.aload_n 0, 1) := by decide +kernel
theorem dX6_addGate_39 : decode cX6_addGate 39 = .ok (.getfield 19, 3) := by decide +kernel
theorem dX6_addGate_42 : decode cX6_addGate 42 = .ok (.getfield 93, 3) := by decide +kernel
theorem dX6_addGate_45 : decode cX6_addGate 45 = .ok (.invokevirtual 149, 3) := by decide +kernel
theorem dX6_addGate_48 : decode cX6_addGate 48 = .ok (.ifCond .ne 19, 3) := by decide +kernel
theorem dX6_addGate_51 : decode cX6_addGate 51 = .ok (.aload_n 0, 1) := by decide +kernel
theorem dX6_addGate_52 : decode cX6_addGate 52 = .ok (.getfield 19, 3) := by decide +kernel
theorem dX6_addGate_55 : decode cX6_addGate 55 = .ok (.getfield 93, 3) := by decide +kernel
theorem dX6_addGate_58 : decode cX6_addGate 58 = .ok (.iload_n 1, 1) := by decide +kernel
theorem dX6_addGate_59 : decode cX6_addGate 59 = .ok (.invokevirtual 150, 3) := by decide +kernel
theorem dX6_addGate_62 : decode cX6_addGate 62 = .ok (.bipush (-9), 2) := by decide +kernel
theorem dX6_addGate_64 : decode cX6_addGate 64 = .ok (.if_icmp .eq 7, 3) := by decide +kernel
theorem dX6_addGate_67 : decode cX6_addGate 67 = .ok (.iconst 1, 1) := by decide +kernel
theorem dX6_addGate_68 : decode cX6_addGate 68 = .ok (.goto 4, 3) := by decide +kernel
theorem dX6_addGate_71 : decode cX6_addGate 71 = .ok (.iconst 0, 1) := by decide +kernel
theorem dX6_addGate_72 : decode cX6_addGate 72 = .ok (.invokestatic 53, 3) := by decide +kernel
theorem dX6_addGate_75 : decode cX6_addGate 75 = .ok (.aload_n 0, 1) := by decide +kernel
theorem dX6_addGate_76 : decode cX6_addGate 76 = .ok (.getfield 29, 3) := by decide +kernel
theorem dX6_addGate_79 : decode cX6_addGate 79 = .ok (.aload_n 0, 1) := by decide +kernel
theorem dX6_addGate_80 : decode cX6_addGate 80 = .ok (.getfield 19, 3) := by decide +kernel
theorem dX6_addGate_83 : decode cX6_addGate 83 = .ok (.invokevirtual 153, 3) := by decide +kernel
theorem dX6_addGate_86 : decode cX6_addGate 86 = .ok (.aload_n 0, 1) := by decide +kernel
theorem dX6_addGate_87 : decode cX6_addGate 87 = .ok (.getfield 19, 3) := by decide +kernel
theorem dX6_addGate_90 : decode cX6_addGate 90 = .ok (.iload_n 1, 1) := by decide +kernel
theorem dX6_addGate_91 : decode cX6_addGate 91 = .ok (.iload_n 2, 1) := by decide +kernel
theorem dX6_addGate_92 : decode cX6_addGate 92 = .ok (.iload_n 3, 1) := by decide +kernel
theorem dX6_addGate_93 : decode cX6_addGate 93 = .ok (.iload 4, 2) := by decide +kernel
theorem dX6_addGate_95 : decode cX6_addGate 95 = .ok (.invokevirtual 156, 3) := by decide +kernel
theorem dX6_addGate_98 : decode cX6_addGate 98 = .ok (.ireturn, 1) := by decide +kernel
set_option maxRecDepth 20000 in
theorem ggX6_addBay_X4_length : GoodIn wsX6_addBay wsX4_length := goodIn_r _ [8, 9, 118, 119, 120, 121, 122, 123, 124, 125, 126, 127, 128, 129] (by decide +kernel) (by decide +kernel)
set_option maxRecDepth 20000 in
theorem gX6_addBay_X4_length : GoodIn wsX6_addBay (wsV RX6 87 RX4 yX4_length wsX4_length) := goodIn_app (goodIn_of _ (by decide +kernel)) ggX6_addBay_X4_length
set_option maxRecDepth 20000 in
theorem ggX6_addBay_X6_checkRange : GoodIn wsX6_addBay wsX6_checkRange := goodIn_ca (goodIn_r _ [13, 14, 15, 12, 16, 17, 18, 19, 20, 21] (by decide +kernel) (by decide +kernel)) (goodIn_sub (fun _ h => List.mem_cons_of_mem _ (List.mem_append_left _ (List.mem_append_right _ h))) (by decide +kernel))
set_option maxRecDepth 20000 in
theorem gX6_addBay_X6_checkRange : GoodIn wsX6_addBay (va_wsS RX6 45 yX6_checkRange wsX6_checkRange) := goodIn_app (goodIn_of _ (by decide +kernel)) ggX6_addBay_X6_checkRange
set_option maxRecDepth 20000 in
theorem ggX6_addBay_X5_isFull : GoodIn wsX6_addBay wsX5_isFull := goodIn_r _ [26, 27, 28, 130, 131, 132, 133] (by decide +kernel) (by decide +kernel)
set_option maxRecDepth 20000 in
theorem gX6_addBay_X5_isFull : GoodIn wsX6_addBay (wsV RX6 149 RX5 yX5_isFull wsX5_isFull) := goodIn_app (goodIn_of _ (by decide +kernel)) ggX6_addBay_X5_isFull
set_option maxRecDepth 20000 in
theorem ggX6_addBay_X5_rowAt : GoodIn wsX6_addBay wsX5_rowAt := goodIn_r _ [32, 27, 33, 34, 35, 25, 36, 37, 38, 130, 131, 132, 133] (by decide +kernel) (by decide +kernel)
set_option maxRecDepth 20000 in
theorem gX6_addBay_X5_rowAt : GoodIn wsX6_addBay (wsV RX6 150 RX5 yX5_rowAt wsX5_rowAt) := goodIn_app (goodIn_of _ (by decide +kernel)) ggX6_addBay_X5_rowAt
set_option maxRecDepth 20000 in
theorem ggX6_addBay_X6_refuseIf : GoodIn wsX6_addBay wsX6_refuseIf := goodIn_ca (goodIn_r _ [41, 42, 43] (by decide +kernel) (by decide +kernel)) (goodIn_sub (fun _ h => List.mem_cons_of_mem _ (List.mem_append_right _ h)) (by decide +kernel))
set_option maxRecDepth 20000 in
theorem gX6_addBay_X6_refuseIf : GoodIn wsX6_addBay (va_wsS RX6 53 yX6_refuseIf wsX6_refuseIf) := goodIn_app (goodIn_of _ (by decide +kernel)) ggX6_addBay_X6_refuseIf
set_option maxRecDepth 20000 in
theorem ggX6_addBay_X0_remember : GoodIn wsX6_addBay wsX0_remember := goodIn_r _ [48, 49, 50, 51, 52, 53, 54, 55, 56, 57, 58, 59, 60, 61, 62, 63, 64, 65, 66, 67, 68, 69, 7, 70, 9, 71, 72, 73, 74, 75, 76, 77, 78, 79, 80, 81, 82, 83, 84, 25, 85, 27, 38, 86, 87, 88, 89, 90, 91, 92, 93, 94, 95, 96, 97, 98, 99, 134, 135, 136, 137, 138, 118, 119, 120, 121, 122, 123, 124, 125, 126, 127, 128, 129, 130, 131, 132, 133, 139, 140, 141] (by decide +kernel) (by decide +kernel)
set_option maxRecDepth 20000 in
theorem gX6_addBay_X0_remember : GoodIn wsX6_addBay (wsV RX6 153 RX0 yX0_remember wsX0_remember) := goodIn_app (goodIn_of _ (by decide +kernel)) ggX6_addBay_X0_remember
set_option maxRecDepth 20000 in
theorem ggX6_addBay_X4_newBay : GoodIn wsX6_addBay wsX4_newBay := goodIn_r _ [103, 73, 104, 105, 106, 25, 107, 27, 28, 37, 108, 109, 110, 111, 38, 112, 118, 119, 120, 121, 122, 123, 124, 125, 126, 127, 128, 129, 130, 131, 132, 133] (by decide +kernel) (by decide +kernel)
set_option maxRecDepth 20000 in
theorem gX6_addBay_X4_newBay : GoodIn wsX6_addBay (wsV RX6 160 RX4 yX4_newBay wsX4_newBay) := goodIn_app (goodIn_of _ (by decide +kernel)) ggX6_addBay_X4_newBay
theorem dX6_addBay_0 : decode cX6_addBay 0 = .ok (.iload_n 1, 1) := by decide +kernel
theorem dX6_addBay_1 : decode cX6_addBay 1 = .ok (.iconst 1, 1) := by decide +kernel
theorem dX6_addBay_2 : decode cX6_addBay 2 = .ok (.aload_n 0, 1) := by decide +kernel
theorem dX6_addBay_3 : decode cX6_addBay 3 = .ok (.getfield 19, 3) := by decide +kernel
theorem dX6_addBay_6 : decode cX6_addBay 6 = .ok (.invokevirtual 87, 3) := by decide +kernel
theorem dX6_addBay_9 : decode cX6_addBay 9 = .ok (.iconst 1, 1) := by decide +kernel
theorem dX6_addBay_10 : decode cX6_addBay 10 = .ok (.isub, 1) := by decide +kernel
theorem dX6_addBay_11 : decode cX6_addBay 11 = .ok (.invokestatic 45, 3) := by decide +kernel
theorem dX6_addBay_14 : decode cX6_addBay 14 = .ok (.iload_n 2, 1) := by decide +kernel
theorem dX6_addBay_15 : decode cX6_addBay 15 = .ok (.iconst 1, 1) := by decide +kernel
theorem dX6_addBay_16 : decode cX6_addBay 16 = .ok (.bipush 6, 2) := by decide +kernel
theorem dX6_addBay_18 : decode cX6_addBay 18 = .ok (.invokestatic 45, 3) := by decide +kernel
theorem dX6_addBay_21 : decode cX6_addBay 21 = .ok (.aload_n 0, 1) := by decide +kernel
theorem dX6_addBay_22 : decode cX6_addBay 22 = .ok (.getfield 19, 3) := by decide +kernel
theorem dX6_addBay_25 : decode cX6_addBay 25 = .ok (.getfield 96, 3) := by decide +kernel
theorem dX6_addBay_28 : decode cX6_addBay 28 = .ok (.invokevirtual 149, 3) := by decide +kernel
theorem dX6_addBay_31 : decode cX6_addBay 31 = .ok (.ifCond .ne 19, 3) := by decide +kernel
theorem dX6_addBay_34 : decode cX6_addBay 34 = .ok (.aload_n 0, 1) := by decide +kernel
theorem dX6_addBay_35 : decode cX6_addBay 35 = .ok (.getfield 19, 3) := by decide +kernel
theorem dX6_addBay_38 : decode cX6_addBay 38 = .ok (.getfield 96, 3) := by decide +kernel
theorem dX6_addBay_41 : decode cX6_addBay 41 = .ok (.iload_n 1, 1) := by decide +kernel
theorem dX6_addBay_42 : decode cX6_addBay 42 = .ok (.invokevirtual 150, 3) := by decide +kernel
theorem dX6_addBay_45 : decode cX6_addBay 45 = .ok (.bipush (-9), 2) := by decide +kernel
theorem dX6_addBay_47 : decode cX6_addBay 47 = .ok (.if_icmp .eq 7, 3) := by decide +kernel
theorem dX6_addBay_50 : decode cX6_addBay 50 = .ok (.iconst 1, 1) := by decide +kernel
theorem dX6_addBay_51 : decode cX6_addBay 51 = .ok (.goto 4, 3) := by decide +kernel
theorem dX6_addBay_54 : decode cX6_addBay 54 = .ok (.iconst 0, 1) := by decide +kernel
theorem dX6_addBay_55 : decode cX6_addBay 55 = .ok (.invokestatic 53, 3) := by decide +kernel
theorem dX6_addBay_58 : decode cX6_addBay 58 = .ok (.aload_n 0, 1) := by decide +kernel
theorem dX6_addBay_59 : decode cX6_addBay 59 = .ok (.getfield 29, 3) := by decide +kernel
theorem dX6_addBay_62 : decode cX6_addBay 62 = .ok (.aload_n 0, 1) := by decide +kernel
theorem dX6_addBay_63 : decode cX6_addBay 63 = .ok (.getfield 19, 3) := by decide +kernel
theorem dX6_addBay_66 : decode cX6_addBay 66 = .ok (.invokevirtual 153, 3) := by decide +kernel
theorem dX6_addBay_69 : decode cX6_addBay 69 = .ok (.aload_n 0, 1) := by decide +kernel
theorem dX6_addBay_70 : decode cX6_addBay 70 = .ok (.getfield 19, 3) := by decide +kernel
theorem dX6_addBay_73 : decode cX6_addBay 73 = .ok (.iload_n 1, 1) := by decide +kernel
theorem dX6_addBay_74 : decode cX6_addBay 74 = .ok (.iload_n 2, 1) := by decide +kernel
theorem dX6_addBay_75 : decode cX6_addBay 75 = .ok (.invokevirtual 160, 3) := by decide +kernel
theorem dX6_addBay_78 : decode cX6_addBay 78 = .ok (.ireturn, 1) := by decide +kernel
set_option maxRecDepth 20000 in
theorem ggX6_addDepot_X4_length : GoodIn wsX6_addDepot wsX4_length := goodIn_r _ [8, 9, 118, 119, 120, 121, 122, 123, 124, 125, 126, 127, 128, 129] (by decide +kernel) (by decide +kernel)
set_option maxRecDepth 20000 in
theorem gX6_addDepot_X4_length : GoodIn wsX6_addDepot (wsV RX6 87 RX4 yX4_length wsX4_length) := goodIn_app (goodIn_of _ (by decide +kernel)) ggX6_addDepot_X4_length
set_option maxRecDepth 20000 in
theorem ggX6_addDepot_X6_checkRange : GoodIn wsX6_addDepot wsX6_checkRange := goodIn_ca (goodIn_r _ [13, 14, 15, 12, 16, 17, 18, 19, 20, 21] (by decide +kernel) (by decide +kernel)) (goodIn_sub (fun _ h => List.mem_cons_of_mem _ (List.mem_append_left _ (List.mem_append_right _ h))) (by decide +kernel))
set_option maxRecDepth 20000 in
theorem gX6_addDepot_X6_checkRange : GoodIn wsX6_addDepot (va_wsS RX6 45 yX6_checkRange wsX6_checkRange) := goodIn_app (goodIn_of _ (by decide +kernel)) ggX6_addDepot_X6_checkRange
set_option maxRecDepth 20000 in
theorem ggX6_addDepot_X5_isFull : GoodIn wsX6_addDepot wsX5_isFull := goodIn_r _ [26, 27, 28, 130, 131, 132, 133] (by decide +kernel) (by decide +kernel)
set_option maxRecDepth 20000 in
theorem gX6_addDepot_X5_isFull : GoodIn wsX6_addDepot (wsV RX6 149 RX5 yX5_isFull wsX5_isFull) := goodIn_app (goodIn_of _ (by decide +kernel)) ggX6_addDepot_X5_isFull
set_option maxRecDepth 20000 in
theorem ggX6_addDepot_X5_rowAt : GoodIn wsX6_addDepot wsX5_rowAt := goodIn_r _ [32, 27, 33, 34, 35, 25, 36, 37, 38, 130, 131, 132, 133] (by decide +kernel) (by decide +kernel)
set_option maxRecDepth 20000 in
theorem gX6_addDepot_X5_rowAt : GoodIn wsX6_addDepot (wsV RX6 150 RX5 yX5_rowAt wsX5_rowAt) := goodIn_app (goodIn_of _ (by decide +kernel)) ggX6_addDepot_X5_rowAt
set_option maxRecDepth 20000 in
theorem ggX6_addDepot_X6_refuseIf : GoodIn wsX6_addDepot wsX6_refuseIf := goodIn_ca (goodIn_r _ [41, 42, 43] (by decide +kernel) (by decide +kernel)) (goodIn_sub (fun _ h => List.mem_cons_of_mem _ (List.mem_append_right _ h)) (by decide +kernel))
set_option maxRecDepth 20000 in
theorem gX6_addDepot_X6_refuseIf : GoodIn wsX6_addDepot (va_wsS RX6 53 yX6_refuseIf wsX6_refuseIf) := goodIn_app (goodIn_of _ (by decide +kernel)) ggX6_addDepot_X6_refuseIf
set_option maxRecDepth 20000 in
theorem ggX6_addDepot_X0_remember : GoodIn wsX6_addDepot wsX0_remember := goodIn_r _ [48, 49, 50, 51, 52, 53, 54, 55, 56, 57, 58, 59, 60, 61, 62, 63, 64, 65, 66, 67, 68, 69, 7, 70, 9, 71, 72, 73, 74, 75, 76, 77, 78, 79, 80, 81, 82, 83, 84, 25, 85, 27, 38, 86, 87, 88, 89, 90, 91, 92, 93, 94, 95, 96, 97, 98, 99, 134, 135, 136, 137, 138, 118, 119, 120, 121, 122, 123, 124, 125, 126, 127, 128, 129, 130, 131, 132, 133, 139, 140, 141] (by decide +kernel) (by decide +kernel)
set_option maxRecDepth 20000 in
theorem gX6_addDepot_X0_remember : GoodIn wsX6_addDepot (wsV RX6 153 RX0 yX0_remember wsX0_remember) := goodIn_app (goodIn_of _ (by decide +kernel)) ggX6_addDepot_X0_remember
set_option maxRecDepth 20000 in
theorem ggX6_addDepot_X4_newDepot : GoodIn wsX6_addDepot wsX4_newDepot := goodIn_r _ [103, 74, 104, 105, 106, 25, 107, 27, 28, 37, 108, 109, 110, 111, 38, 112, 118, 119, 120, 121, 122, 123, 124, 125, 126, 127, 128, 129, 130, 131, 132, 133] (by decide +kernel) (by decide +kernel)
set_option maxRecDepth 20000 in
theorem gX6_addDepot_X4_newDepot : GoodIn wsX6_addDepot (wsV RX6 163 RX4 yX4_newDepot wsX4_newDepot) := goodIn_app (goodIn_of _ (by decide +kernel)) ggX6_addDepot_X4_newDepot
theorem dX6_addDepot_0 : decode cX6_addDepot 0 = .ok (.iload_n 1, 1) := by decide +kernel
theorem dX6_addDepot_1 : decode cX6_addDepot 1 = .ok (.iconst 0, 1) := by decide +kernel
theorem dX6_addDepot_2 : decode cX6_addDepot 2 = .ok (.aload_n 0, 1) := by decide +kernel
theorem dX6_addDepot_3 : decode cX6_addDepot 3 = .ok (.getfield 19, 3) := by decide +kernel
theorem dX6_addDepot_6 : decode cX6_addDepot 6 = .ok (.invokevirtual 87, 3) := by decide +kernel
theorem dX6_addDepot_9 : decode cX6_addDepot 9 = .ok (.invokestatic 45, 3) := by decide +kernel
theorem dX6_addDepot_12 : decode cX6_addDepot 12 = .ok (.iload_n 2, 1) := by decide +kernel
theorem dX6_addDepot_13 : decode cX6_addDepot 13 = .ok (.iconst 0, 1) := by decide +kernel
theorem dX6_addDepot_14 : decode cX6_addDepot 14 = .ok (.sipush 999, 3) := by decide +kernel
theorem dX6_addDepot_17 : decode cX6_addDepot 17 = .ok (.invokestatic 45, 3) := by decide +kernel
theorem dX6_addDepot_20 : decode cX6_addDepot 20 = .ok (.aload_n 0, 1) := by decide +kernel
theorem dX6_addDepot_21 : decode cX6_addDepot 21 = .ok (.getfield 19, 3) := by decide +kernel
theorem dX6_addDepot_24 : decode cX6_addDepot 24 = .ok (.getfield 99, 3) := by decide +kernel
theorem dX6_addDepot_27 : decode cX6_addDepot 27 = .ok (.invokevirtual 149, 3) := by decide +kernel
theorem dX6_addDepot_30 : decode cX6_addDepot 30 = .ok (.ifCond .ne 19, 3) := by decide +kernel
theorem dX6_addDepot_33 : decode cX6_addDepot 33 = .ok (.aload_n 0, 1) := by decide +kernel
theorem dX6_addDepot_34 : decode cX6_addDepot 34 = .ok (.getfield 19, 3) := by decide +kernel
theorem dX6_addDepot_37 : decode cX6_addDepot 37 = .ok (.getfield 99, 3) := by decide +kernel
theorem dX6_addDepot_40 : decode cX6_addDepot 40 = .ok (.iload_n 1, 1) := by decide +kernel
theorem dX6_addDepot_41 : decode cX6_addDepot 41 = .ok (.invokevirtual 150, 3) := by decide +kernel
theorem dX6_addDepot_44 : decode cX6_addDepot 44 = .ok (.bipush (-9), 2) := by decide +kernel
theorem dX6_addDepot_46 : decode cX6_addDepot 46 = .ok (.if_icmp .eq 7, 3) := by decide +kernel
theorem dX6_addDepot_49 : decode cX6_addDepot 49 = .ok (.iconst 1, 1) := by decide +kernel
theorem dX6_addDepot_50 : decode cX6_addDepot 50 = .ok (.goto 4, 3) := by decide +kernel
theorem dX6_addDepot_53 : decode cX6_addDepot 53 = .ok (.iconst 0, 1) := by decide +kernel
theorem dX6_addDepot_54 : decode cX6_addDepot 54 = .ok (.invokestatic 53, 3) := by decide +kernel
theorem dX6_addDepot_57 : decode cX6_addDepot 57 = .ok (.aload_n 0, 1) := by decide +kernel
theorem dX6_addDepot_58 : decode cX6_addDepot 58 = .ok (.getfield 29, 3) := by decide +kernel
theorem dX6_addDepot_61 : decode cX6_addDepot 61 = .ok (.aload_n 0, 1) := by decide +kernel
theorem dX6_addDepot_62 : decode cX6_addDepot 62 = .ok (.getfield 19, 3) := by decide +kernel
theorem dX6_addDepot_65 : decode cX6_addDepot 65 = .ok (.invokevirtual 153, 3) := by decide +kernel
theorem dX6_addDepot_68 : decode cX6_addDepot 68 = .ok (.aload_n 0, 1) := by decide +kernel
theorem dX6_addDepot_69 : decode cX6_addDepot 69 = .ok (.getfield 19, 3) := by decide +kernel
theorem dX6_addDepot_72 : decode cX6_addDepot 72 = .ok (.iload_n 1, 1) := by decide +kernel
theorem dX6_addDepot_73 : decode cX6_addDepot 73 = .ok (.iload_n 2, 1) := by decide +kernel
theorem dX6_addDepot_74 : decode cX6_addDepot 74 = .ok (.invokevirtual 163, 3) := by decide +kernel
theorem dX6_addDepot_77 : decode cX6_addDepot 77 = .ok (.ireturn, 1) := by decide +kernel
set_option maxRecDepth 20000 in
theorem ggX6_addConvoy_X5_isFull : GoodIn wsX6_addConvoy wsX5_isFull := goodIn_r _ [8, 9, 10, 106, 107, 108, 109] (by decide +kernel) (by decide +kernel)
set_option maxRecDepth 20000 in
theorem gX6_addConvoy_X5_isFull : GoodIn wsX6_addConvoy (wsV RX6 149 RX5 yX5_isFull wsX5_isFull) := goodIn_app (goodIn_of _ (by decide +kernel)) ggX6_addConvoy_X5_isFull
set_option maxRecDepth 20000 in
theorem ggX6_addConvoy_X6_refuseIf : GoodIn wsX6_addConvoy wsX6_refuseIf := goodIn_ca (goodIn_r _ [14, 15, 16] (by decide +kernel) (by decide +kernel)) (goodIn_sub (fun _ h => List.mem_cons_of_mem _ (List.mem_append_right _ h)) (by decide +kernel))
set_option maxRecDepth 20000 in
theorem gX6_addConvoy_X6_refuseIf : GoodIn wsX6_addConvoy (va_wsS RX6 53 yX6_refuseIf wsX6_refuseIf) := goodIn_app (goodIn_of _ (by decide +kernel)) ggX6_addConvoy_X6_refuseIf
set_option maxRecDepth 20000 in
theorem ggX6_addConvoy_X0_remember : GoodIn wsX6_addConvoy wsX0_remember := goodIn_r _ [21, 22, 23, 24, 25, 26, 27, 28, 29, 30, 31, 32, 33, 34, 35, 36, 37, 38, 39, 40, 41, 42, 43, 44, 45, 46, 47, 48, 49, 50, 51, 52, 53, 54, 55, 56, 57, 58, 59, 7, 60, 9, 61, 62, 63, 64, 65, 66, 67, 68, 69, 70, 71, 72, 73, 74, 75, 110, 111, 112, 113, 114, 94, 95, 96, 97, 98, 99, 100, 101, 102, 103, 104, 105, 106, 107, 108, 109, 115, 116, 117] (by decide +kernel) (by decide +kernel)
set_option maxRecDepth 20000 in
theorem gX6_addConvoy_X0_remember : GoodIn wsX6_addConvoy (wsV RX6 153 RX0 yX0_remember wsX0_remember) := goodIn_app (goodIn_of _ (by decide +kernel)) ggX6_addConvoy_X0_remember
set_option maxRecDepth 20000 in
theorem ggX6_addConvoy_X4_newConvoy : GoodIn wsX6_addConvoy wsX4_newConvoy := goodIn_r _ [79, 50, 80, 81, 82, 7, 83, 9, 10, 84, 85, 86, 87, 88, 61, 94, 95, 96, 97, 98, 99, 100, 101, 102, 103, 104, 105, 106, 107, 108, 109] (by decide +kernel) (by decide +kernel)
set_option maxRecDepth 20000 in
theorem gX6_addConvoy_X4_newConvoy : GoodIn wsX6_addConvoy (wsV RX6 166 RX4 yX4_newConvoy wsX4_newConvoy) := goodIn_app (goodIn_of _ (by decide +kernel)) ggX6_addConvoy_X4_newConvoy
theorem dX6_addConvoy_0 : decode cX6_addConvoy 0 = .ok (.aload_n 0, 1) := by decide +kernel
theorem dX6_addConvoy_1 : decode cX6_addConvoy 1 = .ok (.getfield 19, 3) := by decide +kernel
theorem dX6_addConvoy_4 : decode cX6_addConvoy 4 = .ok (.getfield 102, 3) := by decide +kernel
theorem dX6_addConvoy_7 : decode cX6_addConvoy 7 = .ok (.invokevirtual 149, 3) := by decide +kernel
theorem dX6_addConvoy_10 : decode cX6_addConvoy 10 = .ok (.invokestatic 53, 3) := by decide +kernel
theorem dX6_addConvoy_13 : decode cX6_addConvoy 13 = .ok (.aload_n 0, 1) := by decide +kernel
theorem dX6_addConvoy_14 : decode cX6_addConvoy 14 = .ok (.getfield 29, 3) := by decide +kernel
theorem dX6_addConvoy_17 : decode cX6_addConvoy 17 = .ok (.aload_n 0, 1) := by decide +kernel
theorem dX6_addConvoy_18 : decode cX6_addConvoy 18 = .ok (.getfield 19, 3) := by decide +kernel
theorem dX6_addConvoy_21 : decode cX6_addConvoy 21 = .ok (.invokevirtual 153, 3) := by decide +kernel
theorem dX6_addConvoy_24 : decode cX6_addConvoy 24 = .ok (.aload_n 0, 1) := by decide +kernel
theorem dX6_addConvoy_25 : decode cX6_addConvoy 25 = .ok (.getfield 19, 3) := by decide +kernel
theorem dX6_addConvoy_28 : decode cX6_addConvoy 28 = .ok (.invokevirtual 166, 3) := by decide +kernel
theorem dX6_addConvoy_31 : decode cX6_addConvoy 31 = .ok (.ireturn, 1) := by decide +kernel
set_option maxRecDepth 20000 in
theorem ggX6_addVehicle_X6_checkExists : GoodIn wsX6_addVehicle wsX6_checkExists := goodIn_ca (goodIn_r _ [7, 8, 9, 10, 11, 12, 13, 14, 15, 157, 158, 159, 160] (by decide +kernel) (by decide +kernel)) (goodIn_sub (fun _ h => List.mem_cons_of_mem _ (List.mem_append_left _ (List.mem_append_left _ (List.mem_append_right _ h)))) (by decide +kernel))
set_option maxRecDepth 20000 in
theorem gX6_addVehicle_X6_checkExists : GoodIn wsX6_addVehicle (va_wsS RX6 112 yX6_checkExists wsX6_checkExists) := goodIn_app (goodIn_of _ (by decide +kernel)) ggX6_addVehicle_X6_checkExists
set_option maxRecDepth 20000 in
theorem ggX6_addVehicle_X6_checkRange : GoodIn wsX6_addVehicle wsX6_checkRange := goodIn_ca (goodIn_r _ [18, 19, 20, 6, 21, 22, 23, 24, 25, 26] (by decide +kernel) (by decide +kernel)) (goodIn_sub (fun _ h => List.mem_cons_of_mem _ (List.mem_append_left _ (List.mem_append_right _ h))) (by decide +kernel))
set_option maxRecDepth 20000 in
theorem gX6_addVehicle_X6_checkRange : GoodIn wsX6_addVehicle (va_wsS RX6 45 yX6_checkRange wsX6_checkRange) := goodIn_app (goodIn_of _ (by decide +kernel)) ggX6_addVehicle_X6_checkRange
set_option maxRecDepth 20000 in
theorem ggX6_addVehicle_X4_hasRoomForVehicle : GoodIn wsX6_addVehicle wsX4_hasRoomForVehicle := goodIn_r _ [31, 32, 33, 34, 35, 36, 37, 13, 38, 15, 39, 40, 11, 12, 14, 41, 42, 43, 44, 45, 46, 145, 146, 147, 148, 149, 150, 151, 152, 153, 154, 155, 156, 157, 158, 159, 160, 161, 162, 163] (by decide +kernel) (by decide +kernel)
set_option maxRecDepth 20000 in
theorem gX6_addVehicle_X4_hasRoomForVehicle : GoodIn wsX6_addVehicle (wsV RX6 169 RX4 yX4_hasRoomForVehicle wsX4_hasRoomForVehicle) := goodIn_app (goodIn_of _ (by decide +kernel)) ggX6_addVehicle_X4_hasRoomForVehicle
set_option maxRecDepth 20000 in
theorem ggX6_addVehicle_X4_isAtEnd : GoodIn wsX6_addVehicle wsX4_isAtEnd := goodIn_r _ [50, 33, 51, 52, 53, 54, 13, 55, 56, 15, 57, 145, 146, 147, 148, 149, 150, 151, 152, 153, 154, 155, 156, 157, 158, 159, 160] (by decide +kernel) (by decide +kernel)
set_option maxRecDepth 20000 in
theorem gX6_addVehicle_X4_isAtEnd : GoodIn wsX6_addVehicle (wsV RX6 135 RX4 yX4_isAtEnd wsX4_isAtEnd) := goodIn_app (goodIn_of _ (by decide +kernel)) ggX6_addVehicle_X4_isAtEnd
set_option maxRecDepth 20000 in
theorem ggX6_addVehicle_X6_refuseIf : GoodIn wsX6_addVehicle wsX6_refuseIf := goodIn_ca (goodIn_r _ [60, 61, 62] (by decide +kernel) (by decide +kernel)) (goodIn_sub (fun _ h => List.mem_cons_of_mem _ (List.mem_append_right _ h)) (by decide +kernel))
set_option maxRecDepth 20000 in
theorem gX6_addVehicle_X6_refuseIf : GoodIn wsX6_addVehicle (va_wsS RX6 53 yX6_refuseIf wsX6_refuseIf) := goodIn_app (goodIn_of _ (by decide +kernel)) ggX6_addVehicle_X6_refuseIf
set_option maxRecDepth 20000 in
theorem ggX6_addVehicle_X0_remember : GoodIn wsX6_addVehicle wsX0_remember := goodIn_r _ [67, 68, 69, 70, 71, 72, 73, 74, 75, 76, 77, 78, 79, 80, 81, 82, 83, 84, 85, 86, 87, 88, 30, 89, 51, 90, 91, 92, 93, 33, 32, 34, 94, 95, 96, 97, 98, 99, 100, 13, 101, 15, 57, 102, 103, 104, 105, 106, 107, 108, 109, 44, 110, 46, 111, 112, 113, 164, 165, 166, 167, 168, 145, 146, 147, 148, 149, 150, 151, 152, 153, 154, 155, 156, 157, 158, 159, 160, 161, 162, 163] (by decide +kernel) (by decide +kernel)
set_option maxRecDepth 20000 in
theorem gX6_addVehicle_X0_remember : GoodIn wsX6_addVehicle (wsV RX6 153 RX0 yX0_remember wsX0_remember) := goodIn_app (goodIn_of _ (by decide +kernel)) ggX6_addVehicle_X0_remember
set_option maxRecDepth 20000 in
theorem ggX6_addVehicle_X4_newVehicle : GoodIn wsX6_addVehicle wsX4_newVehicle := goodIn_r _ [117, 32, 34, 118, 119, 120, 13, 121, 15, 39, 56, 122, 123, 124, 125, 57, 126, 127, 128, 129, 30, 130, 131, 132, 133, 44, 134, 46, 135, 136, 137, 138, 139, 113, 145, 146, 147, 148, 149, 150, 151, 152, 153, 154, 155, 156, 157, 158, 159, 160, 161, 162, 163] (by decide +kernel) (by decide +kernel)
set_option maxRecDepth 20000 in
theorem gX6_addVehicle_X4_newVehicle : GoodIn wsX6_addVehicle (wsV RX6 172 RX4 yX4_newVehicle wsX4_newVehicle) := goodIn_app (goodIn_of _ (by decide +kernel)) ggX6_addVehicle_X4_newVehicle
theorem dX6_addVehicle_0 : decode cX6_addVehicle 0 = .ok (.aload_n 0, 1) := by decide +kernel
theorem dX6_addVehicle_1 : decode cX6_addVehicle 1 = .ok (.getfield 19, 3) := by decide +kernel
theorem dX6_addVehicle_4 : decode cX6_addVehicle 4 = .ok (.getfield 102, 3) := by decide +kernel
theorem dX6_addVehicle_7 : decode cX6_addVehicle 7 = .ok (.iload_n 1, 1) := by decide +kernel
theorem dX6_addVehicle_8 : decode cX6_addVehicle 8 = .ok (.invokestatic 112, 3) := by decide +kernel
theorem dX6_addVehicle_11 : decode cX6_addVehicle 11 = .ok (.iload_n 2, 1) := by decide +kernel
theorem dX6_addVehicle_12 : decode cX6_addVehicle 12 = .ok (.iconst 1, 1) := by decide +kernel
theorem dX6_addVehicle_13 : decode cX6_addVehicle 13 = .ok (.bipush 9, 2) := by decide +kernel
theorem dX6_addVehicle_15 : decode cX6_addVehicle 15 = .ok (.invokestatic 45, 3) := by decide +kernel
theorem dX6_addVehicle_18 : decode cX6_addVehicle 18 = .ok (.iload_n 3, 1) := by decide +kernel
theorem dX6_addVehicle_19 : decode cX6_addVehicle 19 = .ok (.iconst 1, 1) := by decide +kernel
theorem dX6_addVehicle_20 : decode cX6_addVehicle 20 = .ok (.iconst 4, 1) := by decide +kernel
theorem dX6_addVehicle_21 : decode cX6_addVehicle 21 = .ok (.invokestatic 45, 3) := by decide +kernel
theorem dX6_addVehicle_24 : decode cX6_addVehicle 24 = .ok (.iload 4, 2) := by decide +kernel
theorem dX6_addVehicle_26 : decode cX6_addVehicle 26 = .ok (.bipush 20, 2) := by decide +kernel
theorem dX6_addVehicle_28 : decode cX6_addVehicle 28 = .ok (.bipush 99, 2) := by decide +kernel
theorem dX6_addVehicle_30 : decode cX6_addVehicle 30 = .ok (.invokestatic 45, 3) := by decide +kernel
theorem dX6_addVehicle_33 : decode cX6_addVehicle 33 = .ok (.iload 5, 2) := by decide +kernel
theorem dX6_addVehicle_35 : decode cX6_addVehicle 35 = .ok (.iconst 0, 1) := by decide +kernel
theorem dX6_addVehicle_36 : decode cX6_addVehicle 36 = .ok (.iload 4, 2) := by decide +kernel
theorem dX6_addVehicle_38 : decode cX6_addVehicle 38 = .ok (.invokestatic 45, 3) := by decide +kernel
theorem dX6_addVehicle_41 : decode cX6_addVehicle 41 = .ok (.aload_n 0, 1) := by decide +kernel
theorem dX6_addVehicle_42 : decode cX6_addVehicle 42 = .ok (.getfield 19, 3) := by decide +kernel
theorem dX6_addVehicle_45 : decode cX6_addVehicle 45 = .ok (.iload_n 1, 1) := by decide +kernel
theorem dX6_addVehicle_46 : decode cX6_addVehicle 46 = .ok (.invokevirtual 169, 3) := by decide +kernel
theorem dX6_addVehicle_49 : decode cX6_addVehicle 49 = .ok (.ifCond .eq 14, 3) := by decide +kernel
theorem dX6_addVehicle_52 : decode cX6_addVehicle 52 = .ok (.aload_n 0, 1) := by decide +kernel
theorem dX6_addVehicle_53 : decode cX6_addVehicle 53 = .ok (.getfield 19, 3) := by decide +kernel
theorem dX6_addVehicle_56 : decode cX6_addVehicle 56 = .ok (.iload_n 1, 1) := by decide +kernel
theorem dX6_addVehicle_57 : decode cX6_addVehicle 57 = .ok (.invokevirtual 135, 3) := by decide +kernel
theorem dX6_addVehicle_60 : decode cX6_addVehicle 60 = .ok (.ifCond .eq 7, 3) := by decide +kernel
theorem dX6_addVehicle_63 : decode cX6_addVehicle 63 = .ok (.iconst 1, 1) := by decide +kernel
theorem dX6_addVehicle_64 : decode cX6_addVehicle 64 = .ok (.goto 4, 3) := by decide +kernel
theorem dX6_addVehicle_67 : decode cX6_addVehicle 67 = .ok (.iconst 0, 1) := by decide +kernel
theorem dX6_addVehicle_68 : decode cX6_addVehicle 68 = .ok (.invokestatic 53, 3) := by decide +kernel
theorem dX6_addVehicle_71 : decode cX6_addVehicle 71 = .ok (.aload_n 0, 1) := by decide +kernel
theorem dX6_addVehicle_72 : decode cX6_addVehicle 72 = .ok (.getfield 29, 3) := by decide +kernel
theorem dX6_addVehicle_75 : decode cX6_addVehicle 75 = .ok (.aload_n 0, 1) := by decide +kernel
theorem dX6_addVehicle_76 : decode cX6_addVehicle 76 = .ok (.getfield 19, 3) := by decide +kernel
theorem dX6_addVehicle_79 : decode cX6_addVehicle 79 = .ok (.invokevirtual 153, 3) := by decide +kernel
theorem dX6_addVehicle_82 : decode cX6_addVehicle 82 = .ok (.aload_n 0, 1) := by decide +kernel
theorem dX6_addVehicle_83 : decode cX6_addVehicle 83 = .ok (.getfield 19, 3) := by decide +kernel
theorem dX6_addVehicle_86 : decode cX6_addVehicle 86 = .ok (.iload_n 1, 1) := by decide +kernel
theorem dX6_addVehicle_87 : decode cX6_addVehicle 87 = .ok (.iload_n 2, 1) := by decide +kernel
theorem dX6_addVehicle_88 : decode cX6_addVehicle 88 = .ok (.iload_n 3, 1) := by decide +kernel
theorem dX6_addVehicle_89 : decode cX6_addVehicle 89 = .ok (.iload 4, 2) := by decide +kernel
theorem dX6_addVehicle_91 : decode cX6_addVehicle 91 = .ok (.iload 5, 2) := by decide +kernel
theorem dX6_addVehicle_93 : decode cX6_addVehicle 93 = .ok (.invokevirtual 172, 3) := by decide +kernel
theorem dX6_addVehicle_96 : decode cX6_addVehicle 96 = .ok (.ireturn, 1) := by decide +kernel
set_option maxRecDepth 20000 in
theorem ggX6_hold_X6_checkExists : GoodIn wsX6_hold wsX6_checkExists := goodIn_ca (goodIn_r _ [7, 8, 9, 10, 11, 12, 13, 14, 15, 112, 113, 114, 115] (by decide +kernel) (by decide +kernel)) (goodIn_sub (fun _ h => List.mem_cons_of_mem _ (List.mem_append_left _ (List.mem_append_right _ h))) (by decide +kernel))
set_option maxRecDepth 20000 in
theorem gX6_hold_X6_checkExists : GoodIn wsX6_hold (va_wsS RX6 112 yX6_checkExists wsX6_checkExists) := goodIn_app (goodIn_of _ (by decide +kernel)) ggX6_hold_X6_checkExists
set_option maxRecDepth 20000 in
theorem ggX6_hold_X6_checkRange : GoodIn wsX6_hold wsX6_checkRange := goodIn_ca (goodIn_r _ [18, 19, 20, 6, 21, 22, 23, 24, 25, 26] (by decide +kernel) (by decide +kernel)) (goodIn_sub (fun _ h => List.mem_cons_of_mem _ (List.mem_append_right _ h)) (by decide +kernel))
set_option maxRecDepth 20000 in
theorem gX6_hold_X6_checkRange : GoodIn wsX6_hold (va_wsS RX6 45 yX6_checkRange wsX6_checkRange) := goodIn_app (goodIn_of _ (by decide +kernel)) ggX6_hold_X6_checkRange
set_option maxRecDepth 20000 in
theorem ggX6_hold_X0_remember : GoodIn wsX6_hold wsX0_remember := goodIn_r _ [31, 32, 33, 34, 35, 36, 37, 38, 39, 40, 41, 42, 43, 44, 45, 46, 47, 48, 49, 50, 51, 52, 53, 54, 55, 56, 57, 58, 59, 60, 61, 62, 63, 64, 65, 66, 67, 68, 69, 13, 70, 15, 71, 72, 73, 74, 75, 76, 77, 78, 79, 80, 81, 82, 83, 84, 85, 116, 117, 118, 119, 120, 100, 101, 102, 103, 104, 105, 106, 107, 108, 109, 110, 111, 112, 113, 114, 115, 121, 122, 123] (by decide +kernel) (by decide +kernel)
set_option maxRecDepth 20000 in
theorem gX6_hold_X0_remember : GoodIn wsX6_hold (wsV RX6 153 RX0 yX0_remember wsX0_remember) := goodIn_app (goodIn_of _ (by decide +kernel)) ggX6_hold_X0_remember
set_option maxRecDepth 20000 in
theorem ggX6_hold_X5_get : GoodIn wsX6_hold wsX5_get := goodIn_r _ [89, 90, 15, 71, 112, 113, 114, 115] (by decide +kernel) (by decide +kernel)
set_option maxRecDepth 20000 in
theorem gX6_hold_X5_get : GoodIn wsX6_hold (wsV RX6 116 RX5 yX5_get wsX5_get) := goodIn_app (goodIn_of _ (by decide +kernel)) ggX6_hold_X5_get
set_option maxRecDepth 20000 in
theorem ggX6_hold_X5_put : GoodIn wsX6_hold wsX5_put := goodIn_r _ [94, 90, 15, 71, 112, 113, 114, 115] (by decide +kernel) (by decide +kernel)
set_option maxRecDepth 20000 in
theorem gX6_hold_X5_put : GoodIn wsX6_hold (wsV RX6 176 RX5 yX5_put wsX5_put) := goodIn_app (goodIn_of _ (by decide +kernel)) ggX6_hold_X5_put
theorem dX6_hold_0 : decode cX6_hold 0 = .ok (.aload_n 0, 1) := by decide +kernel
theorem dX6_hold_1 : decode cX6_hold 1 = .ok (.getfield 19, 3) := by decide +kernel
theorem dX6_hold_4 : decode cX6_hold 4 = .ok (.getfield 102, 3) := by decide +kernel
theorem dX6_hold_7 : decode cX6_hold 7 = .ok (.iload_n 1, 1) := by decide +kernel
theorem dX6_hold_8 : decode cX6_hold 8 = .ok (.invokestatic 112, 3) := by decide +kernel
theorem dX6_hold_11 : decode cX6_hold 11 = .ok (.iload_n 2, 1) := by decide +kernel
theorem dX6_hold_12 : decode cX6_hold 12 = .ok (.iconst 0, 1) := by decide +kernel
theorem dX6_hold_13 : decode cX6_hold 13 = .ok (.bipush 23, 2) := by decide +kernel
theorem dX6_hold_15 : decode cX6_hold 15 = .ok (.invokestatic 45, 3) := by decide +kernel
theorem dX6_hold_18 : decode cX6_hold 18 = .ok (.aload_n 0, 1) := by decide +kernel
theorem dX6_hold_19 : decode cX6_hold 19 = .ok (.getfield 29, 3) := by decide +kernel
theorem dX6_hold_22 : decode cX6_hold 22 = .ok (.aload_n 0, 1) := by decide +kernel
theorem dX6_hold_23 : decode cX6_hold 23 = .ok (.getfield 19, 3) := by decide +kernel
theorem dX6_hold_26 : decode cX6_hold 26 = .ok (.invokevirtual 153, 3) := by decide +kernel
theorem dX6_hold_29 : decode cX6_hold 29 = .ok (.aload_n 0, 1) := by decide +kernel
theorem dX6_hold_30 : decode cX6_hold 30 = .ok (.getfield 19, 3) := by decide +kernel
theorem dX6_hold_33 : decode cX6_hold 33 = .ok (.getfield 102, 3) := by decide +kernel
theorem dX6_hold_36 : decode cX6_hold 36 = .ok (.iload_n 1, 1) := by decide +kernel
theorem dX6_hold_37 : decode cX6_hold 37 = .ok (.iconst 1, 1) := by decide +kernel
theorem dX6_hold_38 : decode cX6_hold 38 = .ok (.invokevirtual 116, 3) := by decide +kernel
theorem dX6_hold_41 : decode cX6_hold 41 = .ok (.istore_n 3, 1) := by decide +kernel
theorem dX6_hold_42 : decode cX6_hold 42 = .ok (.aload_n 0, 1) := by decide +kernel
theorem dX6_hold_43 : decode cX6_hold 43 = .ok (.getfield 19, 3) := by decide +kernel
theorem dX6_hold_46 : decode cX6_hold 46 = .ok (.getfield 102, 3) := by decide +kernel
theorem dX6_hold_49 : decode cX6_hold 49 = .ok (.iload_n 1, 1) := by decide +kernel
theorem dX6_hold_50 : decode cX6_hold 50 = .ok (.iconst 1, 1) := by decide +kernel
theorem dX6_hold_51 : decode cX6_hold 51 = .ok (.iload_n 2, 1) := by decide +kernel
theorem dX6_hold_52 : decode cX6_hold 52 = .ok (.invokevirtual 176, 3) := by decide +kernel
theorem dX6_hold_55 : decode cX6_hold 55 = .ok (.iload_n 3, 1) := by decide +kernel
theorem dX6_hold_56 : decode cX6_hold 56 = .ok (.ireturn, 1) := by decide +kernel
set_option maxRecDepth 20000 in
theorem ggX6_supply_X6_checkExists : GoodIn wsX6_supply wsX6_checkExists := goodIn_ca (goodIn_r _ [7, 8, 9, 10, 11, 12, 13, 14, 15, 117, 118, 119, 120] (by decide +kernel) (by decide +kernel)) (goodIn_sub (fun _ h => List.mem_cons_of_mem _ (List.mem_append_left _ (List.mem_append_left _ (List.mem_append_right _ h)))) (by decide +kernel))
set_option maxRecDepth 20000 in
theorem gX6_supply_X6_checkExists : GoodIn wsX6_supply (va_wsS RX6 112 yX6_checkExists wsX6_checkExists) := goodIn_app (goodIn_of _ (by decide +kernel)) ggX6_supply_X6_checkExists
set_option maxRecDepth 20000 in
theorem ggX6_supply_X6_checkRange : GoodIn wsX6_supply wsX6_checkRange := goodIn_ca (goodIn_r _ [18, 19, 20, 6, 21, 22, 23, 24, 25, 26] (by decide +kernel) (by decide +kernel)) (goodIn_sub (fun _ h => List.mem_cons_of_mem _ (List.mem_append_left _ (List.mem_append_right _ h))) (by decide +kernel))
set_option maxRecDepth 20000 in
theorem gX6_supply_X6_checkRange : GoodIn wsX6_supply (va_wsS RX6 45 yX6_checkRange wsX6_checkRange) := goodIn_app (goodIn_of _ (by decide +kernel)) ggX6_supply_X6_checkRange
set_option maxRecDepth 20000 in
theorem ggX6_supply_X5_get : GoodIn wsX6_supply wsX5_get := goodIn_r _ [30, 31, 15, 32, 117, 118, 119, 120] (by decide +kernel) (by decide +kernel)
set_option maxRecDepth 20000 in
theorem gX6_supply_X5_get : GoodIn wsX6_supply (wsV RX6 116 RX5 yX5_get wsX5_get) := goodIn_app (goodIn_of _ (by decide +kernel)) ggX6_supply_X5_get
set_option maxRecDepth 20000 in
theorem ggX6_supply_X6_refuseIf : GoodIn wsX6_supply wsX6_refuseIf := goodIn_ca (goodIn_r _ [35, 36, 37] (by decide +kernel) (by decide +kernel)) (goodIn_sub (fun _ h => List.mem_cons_of_mem _ (List.mem_append_right _ h)) (by decide +kernel))
set_option maxRecDepth 20000 in
theorem gX6_supply_X6_refuseIf : GoodIn wsX6_supply (va_wsS RX6 53 yX6_refuseIf wsX6_refuseIf) := goodIn_app (goodIn_of _ (by decide +kernel)) ggX6_supply_X6_refuseIf
set_option maxRecDepth 20000 in
theorem ggX6_supply_X0_remember : GoodIn wsX6_supply wsX0_remember := goodIn_r _ [42, 43, 44, 45, 46, 47, 48, 49, 50, 51, 52, 53, 54, 55, 56, 57, 58, 59, 60, 61, 62, 63, 64, 65, 66, 67, 68, 69, 70, 71, 72, 73, 74, 75, 76, 77, 78, 79, 80, 13, 81, 15, 32, 82, 83, 84, 85, 86, 87, 88, 89, 90, 91, 92, 93, 94, 95, 121, 122, 123, 124, 125, 105, 106, 107, 108, 109, 110, 111, 112, 113, 114, 115, 116, 117, 118, 119, 120, 126, 127, 128] (by decide +kernel) (by decide +kernel)
set_option maxRecDepth 20000 in
theorem gX6_supply_X0_remember : GoodIn wsX6_supply (wsV RX6 153 RX0 yX0_remember wsX0_remember) := goodIn_app (goodIn_of _ (by decide +kernel)) ggX6_supply_X0_remember
set_option maxRecDepth 20000 in
theorem ggX6_supply_X5_raise : GoodIn wsX6_supply wsX5_raise := goodIn_r _ [99, 31, 15, 32, 117, 118, 119, 120] (by decide +kernel) (by decide +kernel)
set_option maxRecDepth 20000 in
theorem gX6_supply_X5_raise : GoodIn wsX6_supply (wsV RX6 179 RX5 yX5_raise wsX5_raise) := goodIn_app (goodIn_of _ (by decide +kernel)) ggX6_supply_X5_raise
theorem dX6_supply_0 : decode cX6_supply 0 = .ok (.aload_n 0, 1) := by decide +kernel
theorem dX6_supply_1 : decode cX6_supply 1 = .ok (.getfield 19, 3) := by decide +kernel
theorem dX6_supply_4 : decode cX6_supply 4 = .ok (.getfield 99, 3) := by decide +kernel
theorem dX6_supply_7 : decode cX6_supply 7 = .ok (.iload_n 1, 1) := by decide +kernel
theorem dX6_supply_8 : decode cX6_supply 8 = .ok (.invokestatic 112, 3) := by decide +kernel
theorem dX6_supply_11 : decode cX6_supply 11 = .ok (.iload_n 2, 1) := by decide +kernel
theorem dX6_supply_12 : decode cX6_supply 12 = .ok (.iconst 1, 1) := by decide +kernel
theorem dX6_supply_13 : decode cX6_supply 13 = .ok (.sipush 500, 3) := by decide +kernel
theorem dX6_supply_16 : decode cX6_supply 16 = .ok (.invokestatic 45, 3) := by decide +kernel
theorem dX6_supply_19 : decode cX6_supply 19 = .ok (.aload_n 0, 1) := by decide +kernel
theorem dX6_supply_20 : decode cX6_supply 20 = .ok (.getfield 19, 3) := by decide +kernel
theorem dX6_supply_23 : decode cX6_supply 23 = .ok (.getfield 99, 3) := by decide +kernel
theorem dX6_supply_26 : decode cX6_supply 26 = .ok (.iload_n 1, 1) := by decide +kernel
theorem dX6_supply_27 : decode cX6_supply 27 = .ok (.iconst 1, 1) := by decide +kernel
theorem dX6_supply_28 : decode cX6_supply 28 = .ok (.invokevirtual 116, 3) := by decide +kernel
theorem dX6_supply_31 : decode cX6_supply 31 = .ok (.iload_n 2, 1) := by decide +kernel
theorem dX6_supply_32 : decode cX6_supply 32 = .ok (.iadd, 1) := by decide +kernel
theorem dX6_supply_33 : decode cX6_supply 33 = .ok (.sipush 999, 3) := by decide +kernel
theorem dX6_supply_36 : decode cX6_supply 36 = .ok (.if_icmp .le 7, 3) := by decide +kernel
theorem dX6_supply_39 : decode cX6_supply 39 = .ok (.iconst 1, 1) := by decide +kernel
theorem dX6_supply_40 : decode cX6_supply 40 = .ok (.goto 4, 3) := by decide +kernel
theorem dX6_supply_43 : decode cX6_supply 43 = .ok (.iconst 0, 1) := by decide +kernel
theorem dX6_supply_44 : decode cX6_supply 44 = .ok (.invokestatic 53, 3) := by decide +kernel
theorem dX6_supply_47 : decode cX6_supply 47 = .ok (.aload_n 0, 1) := by decide +kernel
theorem dX6_supply_48 : decode cX6_supply 48 = .ok (.getfield 29, 3) := by decide +kernel
theorem dX6_supply_51 : decode cX6_supply 51 = .ok (.aload_n 0, 1) := by decide +kernel
theorem dX6_supply_52 : decode cX6_supply 52 = .ok (.getfield 19, 3) := by decide +kernel
theorem dX6_supply_55 : decode cX6_supply 55 = .ok (.invokevirtual 153, 3) := by decide +kernel
theorem dX6_supply_58 : decode cX6_supply 58 = .ok (.aload_n 0, 1) := by decide +kernel
theorem dX6_supply_59 : decode cX6_supply 59 = .ok (.getfield 19, 3) := by decide +kernel
theorem dX6_supply_62 : decode cX6_supply 62 = .ok (.getfield 99, 3) := by decide +kernel
theorem dX6_supply_65 : decode cX6_supply 65 = .ok (.iload_n 1, 1) := by decide +kernel
theorem dX6_supply_66 : decode cX6_supply 66 = .ok (.iconst 1, 1) := by decide +kernel
theorem dX6_supply_67 : decode cX6_supply 67 = .ok (.iload_n 2, 1) := by decide +kernel
theorem dX6_supply_68 : decode cX6_supply 68 = .ok (.invokevirtual 179, 3) := by decide +kernel
theorem dX6_supply_71 : decode cX6_supply 71 = .ok (.aload_n 0, 1) := by decide +kernel
theorem dX6_supply_72 : decode cX6_supply 72 = .ok (.getfield 19, 3) := by decide +kernel
theorem dX6_supply_75 : decode cX6_supply 75 = .ok (.getfield 99, 3) := by decide +kernel
theorem dX6_supply_78 : decode cX6_supply 78 = .ok (.iload_n 1, 1) := by decide +kernel
theorem dX6_supply_79 : decode cX6_supply 79 = .ok (.iconst 1, 1) := by decide +kernel
theorem dX6_supply_80 : decode cX6_supply 80 = .ok (.invokevirtual 116, 3) := by decide +kernel
theorem dX6_supply_83 : decode cX6_supply 83 = .ok (.ireturn, 1) := by decide +kernel
set_option maxRecDepth 20000 in
theorem ggX6_pass_X6_checkRange : GoodIn wsX6_pass wsX6_checkRange := goodIn_ca (goodIn_r _ [6, 7, 8, 5, 9, 10, 11, 12, 13, 14] (by decide +kernel) (by decide +kernel)) (goodIn_sub (fun _ h => List.mem_cons_of_mem _ (List.mem_append_right _ h)) (by decide +kernel))
set_option maxRecDepth 20000 in
theorem gX6_pass_X6_checkRange : GoodIn wsX6_pass (va_wsS RX6 45 yX6_checkRange wsX6_checkRange) := goodIn_app (goodIn_of _ (by decide +kernel)) ggX6_pass_X6_checkRange
set_option maxRecDepth 20000 in
theorem ggX6_pass_X0_remember : GoodIn wsX6_pass wsX0_remember := goodIn_r _ [19, 20, 21, 22, 23, 24, 25, 26, 27, 28, 29, 30, 31, 32, 33, 34, 35, 36, 37, 38, 39, 40, 41, 42, 43, 44, 45, 46, 47, 48, 49, 50, 51, 52, 53, 54, 55, 56, 57, 58, 59, 60, 61, 62, 63, 64, 65, 66, 67, 68, 69, 70, 71, 72, 73, 74, 75, 214, 215, 216, 217, 218, 219, 220, 221, 222, 223, 224, 225, 226, 227, 228, 229, 230, 231, 232, 233, 234, 235, 236, 237] (by decide +kernel) (by decide +kernel)
set_option maxRecDepth 20000 in
theorem gX6_pass_X0_remember : GoodIn wsX6_pass (wsV RX6 153 RX0 yX0_remember wsX0_remember) := goodIn_app (goodIn_of _ (by decide +kernel)) ggX6_pass_X0_remember
set_option maxRecDepth 20000 in
theorem ggX6_pass_X4_howMany : GoodIn wsX6_pass wsX4_howMany := goodIn_r _ [79, 49, 80, 81, 82, 58, 83, 60, 84, 85, 86, 87, 88, 61, 219, 220, 221, 222, 223, 224, 225, 226, 227, 228, 229, 230, 231, 232, 233, 234] (by decide +kernel) (by decide +kernel)
set_option maxRecDepth 20000 in
theorem gX6_pass_X4_howMany : GoodIn wsX6_pass (wsV RX6 105 RX4 yX4_howMany wsX4_howMany) := goodIn_app (goodIn_of _ (by decide +kernel)) ggX6_pass_X4_howMany
set_option maxRecDepth 20000 in
theorem ggX6_pass_X4_letGoBy : GoodIn wsX6_pass wsX4_letGoBy := goodIn_r _ [92, 8, 5, 9, 93, 94, 95, 41, 96, 52, 48, 50, 44, 80, 81, 82, 58, 83, 60, 97, 98, 99, 70, 100, 72, 101, 102, 103, 104, 43, 84, 85, 86, 87, 88, 61, 105, 106, 107, 108, 109, 110, 111, 112, 113, 114, 115, 116, 47, 49, 117, 24, 25, 26, 118, 119, 120, 121, 122, 123, 124, 125, 126, 127, 75, 128, 129, 130, 131, 132, 133, 134, 135, 45, 136, 137, 138, 139, 140, 141, 142, 143, 144, 145, 146, 46, 51, 147, 148, 149, 150, 151, 152, 153, 154, 155, 156, 157, 158, 159, 160, 161, 162, 163, 164, 165, 166, 167, 168, 169, 170, 171, 172, 173, 174, 175, 53, 54, 176, 177, 178, 179, 180, 181, 182, 183, 184, 185, 186, 187, 188, 189, 190, 191, 192, 193, 194, 195, 196, 197, 198, 199, 200, 201, 202, 203, 204, 205, 206, 207, 208, 219, 220, 221, 222, 223, 224, 225, 226, 227, 228, 229, 230, 231, 232, 233, 234, 235, 236, 237] (by decide +kernel) (by decide +kernel)
set_option maxRecDepth 20000 in
theorem gX6_pass_X4_letGoBy : GoodIn wsX6_pass (wsV RX6 182 RX4 yX4_letGoBy wsX4_letGoBy) := goodIn_app (goodIn_of _ (by decide +kernel)) ggX6_pass_X4_letGoBy
theorem dX6_pass_0 : decode cX6_pass 0 = .ok (.iload_n 1, 1) := by decide +kernel
theorem dX6_pass_1 : decode cX6_pass 1 = .ok (.iconst 1, 1) := by decide +kernel
theorem dX6_pass_2 : decode cX6_pass 2 = .ok (.bipush 99, 2) := by decide +kernel
theorem dX6_pass_4 : decode cX6_pass 4 = .ok (.invokestatic 45, 3) := by decide +kernel
theorem dX6_pass_7 : decode cX6_pass 7 = .ok (.aload_n 0, 1) := by decide +kernel
theorem dX6_pass_8 : decode cX6_pass 8 = .ok (.getfield 29, 3) := by decide +kernel
theorem dX6_pass_11 : decode cX6_pass 11 = .ok (.aload_n 0, 1) := by decide +kernel
theorem dX6_pass_12 : decode cX6_pass 12 = .ok (.getfield 19, 3) := by decide +kernel
theorem dX6_pass_15 : decode cX6_pass 15 = .ok (.invokevirtual 153, 3) := by decide +kernel
theorem dX6_pass_18 : decode cX6_pass 18 = .ok (.aload_n 0, 1) := by decide +kernel
theorem dX6_pass_19 : decode cX6_pass 19 = .ok (.getfield 19, 3) := by decide +kernel
theorem dX6_pass_22 : decode cX6_pass 22 = .ok (.iconst 2, 1) := by decide +kernel
theorem dX6_pass_23 : decode cX6_pass 23 = .ok (.invokevirtual 105, 3) := by decide +kernel
theorem dX6_pass_26 : decode cX6_pass 26 = .ok (.istore_n 2, 1) := by decide +kernel
theorem dX6_pass_27 : decode cX6_pass 27 = .ok (.aload_n 0, 1) := by decide +kernel
theorem dX6_pass_28 : decode cX6_pass 28 = .ok (.getfield 19, 3) := by decide +kernel
theorem dX6_pass_31 : decode cX6_pass 31 = .ok (.iload_n 1, 1) := by decide +kernel
theorem dX6_pass_32 : decode cX6_pass 32 = .ok (.invokevirtual 182, 3) := by decide +kernel
theorem dX6_pass_35 : decode cX6_pass 35 = .ok (.pop, 1) := by decide +kernel
theorem dX6_pass_36 : decode cX6_pass 36 = .ok (.aload_n 0, 1) := by decide +kernel
theorem dX6_pass_37 : decode cX6_pass 37 = .ok (.getfield 19, 3) := by decide +kernel
theorem dX6_pass_40 : decode cX6_pass 40 = .ok (.iconst 2, 1) := by decide +kernel
theorem dX6_pass_41 : decode cX6_pass 41 = .ok (.invokevirtual 105, 3) := by decide +kernel
theorem dX6_pass_44 : decode cX6_pass 44 = .ok (.iload_n 2, 1) := by decide +kernel
theorem dX6_pass_45 : decode cX6_pass 45 = .ok (.isub, 1) := by decide +kernel
theorem dX6_pass_46 : decode cX6_pass 46 = .ok (.ireturn, 1) := by decide +kernel
set_option maxRecDepth 20000 in
theorem ggX6_undo_X0_size : GoodIn wsX6_undo wsX0_size := goodIn_r _ [7, 8, 77, 78, 79] (by decide +kernel) (by decide +kernel)
set_option maxRecDepth 20000 in
theorem gX6_undo_X0_size : GoodIn wsX6_undo (wsV RX6 185 RX0 yX0_size wsX0_size) := goodIn_app (goodIn_of _ (by decide +kernel)) ggX6_undo_X0_size
set_option maxRecDepth 20000 in
theorem ggX6_undo_X6_refuseIf : GoodIn wsX6_undo wsX6_refuseIf := goodIn_ca (goodIn_r _ [12, 13, 14] (by decide +kernel) (by decide +kernel)) (goodIn_sub (fun _ h => List.mem_cons_of_mem _ (List.mem_append_right _ h)) (by decide +kernel))
set_option maxRecDepth 20000 in
theorem gX6_undo_X6_refuseIf : GoodIn wsX6_undo (va_wsS RX6 53 yX6_refuseIf wsX6_refuseIf) := goodIn_app (goodIn_of _ (by decide +kernel)) ggX6_undo_X6_refuseIf
set_option maxRecDepth 20000 in
theorem ggX6_undo_X0_takeBack : GoodIn wsX6_undo wsX0_takeBack := goodIn_r _ [18, 8, 19, 20, 21, 22, 23, 24, 25, 26, 27, 28, 29, 30, 31, 32, 33, 34, 35, 36, 37, 38, 39, 40, 41, 42, 43, 44, 45, 46, 47, 48, 49, 50, 51, 52, 53, 54, 55, 56, 57, 58, 59, 60, 61, 62, 63, 64, 65, 66, 67, 68, 69, 70, 71, 77, 78, 79, 80, 81, 82, 83, 84, 85, 86, 87, 88, 89, 90, 91, 92, 93, 94, 95, 96, 97, 98, 99, 100] (by decide +kernel) (by decide +kernel)
set_option maxRecDepth 20000 in
theorem gX6_undo_X0_takeBack : GoodIn wsX6_undo (wsV RX6 187 RX0 yX0_takeBack wsX0_takeBack) := goodIn_app (goodIn_of _ (by decide +kernel)) ggX6_undo_X0_takeBack
theorem dX6_undo_0 : decode cX6_undo 0 = .ok (.aload_n 0, 1) := by decide +kernel
theorem dX6_undo_1 : decode cX6_undo 1 = .ok (.getfield 29, 3) := by decide +kernel
theorem dX6_undo_4 : decode cX6_undo 4 = .ok (.invokevirtual 185, 3) := by decide +kernel
theorem dX6_undo_7 : decode cX6_undo 7 = .ok (.ifCond .ne 7, 3) := by decide +kernel
theorem dX6_undo_10 : decode cX6_undo 10 = .ok (.iconst 1, 1) := by decide +kernel
theorem dX6_undo_11 : decode cX6_undo 11 = .ok (.goto 4, 3) := by decide +kernel
theorem dX6_undo_14 : decode cX6_undo 14 = .ok (.iconst 0, 1) := by decide +kernel
theorem dX6_undo_15 : decode cX6_undo 15 = .ok (.invokestatic 53, 3) := by decide +kernel
theorem dX6_undo_18 : decode cX6_undo 18 = .ok (.aload_n 0, 1) := by decide +kernel
theorem dX6_undo_19 : decode cX6_undo 19 = .ok (.getfield 29, 3) := by decide +kernel
theorem dX6_undo_22 : decode cX6_undo 22 = .ok (.aload_n 0, 1) := by decide +kernel
theorem dX6_undo_23 : decode cX6_undo 23 = .ok (.getfield 19, 3) := by decide +kernel
theorem dX6_undo_26 : decode cX6_undo 26 = .ok (.invokevirtual 187, 3) := by decide +kernel
theorem dX6_undo_29 : decode cX6_undo 29 = .ok (.aload_n 0, 1) := by decide +kernel
theorem dX6_undo_30 : decode cX6_undo 30 = .ok (.getfield 29, 3) := by decide +kernel
theorem dX6_undo_33 : decode cX6_undo 33 = .ok (.invokevirtual 185, 3) := by decide +kernel
theorem dX6_undo_36 : decode cX6_undo 36 = .ok (.ireturn, 1) := by decide +kernel
set_option maxRecDepth 20000 in
theorem ggX6_arrives_X6_checkExists : GoodIn wsX6_arrives wsX6_checkExists := goodIn_ca (goodIn_r _ [7, 8, 9, 10, 11, 12, 13, 14, 15, 201, 202, 203, 204] (by decide +kernel) (by decide +kernel)) (goodIn_sub (fun _ h => List.mem_cons_of_mem _ (List.mem_append_right _ h)) (by decide +kernel))
set_option maxRecDepth 20000 in
theorem gX6_arrives_X6_checkExists : GoodIn wsX6_arrives (va_wsS RX6 112 yX6_checkExists wsX6_checkExists) := goodIn_app (goodIn_of _ (by decide +kernel)) ggX6_arrives_X6_checkExists
set_option maxRecDepth 20000 in
theorem ggX6_arrives_X4_copyFrom : GoodIn wsX6_arrives wsX4_copyFrom := goodIn_r _ [20, 21, 22, 23, 24, 25, 26, 27, 28, 29, 30, 31, 32, 33, 34, 35, 13, 36, 15, 37, 38, 39, 40, 41, 42, 43, 44, 45, 46, 47, 48, 49, 50, 51, 52, 53, 54, 189, 190, 191, 192, 193, 194, 195, 196, 197, 198, 199, 200, 201, 202, 203, 204, 205, 206, 207] (by decide +kernel) (by decide +kernel)
set_option maxRecDepth 20000 in
theorem gX6_arrives_X4_copyFrom : GoodIn wsX6_arrives (wsV RX6 69 RX4 yX4_copyFrom wsX4_copyFrom) := goodIn_app (goodIn_of _ (by decide +kernel)) ggX6_arrives_X4_copyFrom
set_option maxRecDepth 20000 in
theorem ggX6_arrives_X4_hoursToEnd : GoodIn wsX6_arrives wsX4_hoursToEnd := goodIn_r _ [58, 30, 59, 60, 61, 19, 62, 26, 21, 63, 64, 65, 13, 66, 67, 15, 37, 68, 69, 70, 71, 28, 22, 72, 73, 74, 75, 76, 77, 78, 49, 79, 51, 80, 81, 82, 83, 84, 85, 86, 87, 88, 89, 90, 91, 25, 27, 92, 39, 40, 41, 93, 94, 95, 96, 97, 98, 99, 100, 101, 102, 54, 103, 104, 105, 106, 107, 108, 109, 110, 23, 111, 112, 113, 114, 115, 116, 117, 118, 119, 120, 121, 24, 29, 122, 123, 124, 125, 126, 127, 128, 129, 130, 131, 132, 133, 134, 135, 136, 137, 138, 139, 140, 141, 142, 143, 144, 145, 146, 147, 148, 149, 150, 31, 32, 151, 152, 153, 154, 155, 156, 157, 158, 159, 160, 161, 162, 163, 164, 165, 166, 167, 168, 169, 170, 171, 172, 173, 174, 175, 176, 177, 178, 179, 180, 181, 182, 183, 189, 190, 191, 192, 193, 194, 195, 196, 197, 198, 199, 200, 201, 202, 203, 204, 205, 206, 207] (by decide +kernel) (by decide +kernel)
set_option maxRecDepth 20000 in
theorem gX6_arrives_X4_hoursToEnd : GoodIn wsX6_arrives (wsV RX6 190 RX4 yX4_hoursToEnd wsX4_hoursToEnd) := goodIn_app (goodIn_of _ (by decide +kernel)) ggX6_arrives_X4_hoursToEnd
theorem dX6_arrives_0 : decode cX6_arrives 0 = .ok (.aload_n 0, 1) := by decide +kernel
theorem dX6_arrives_1 : decode cX6_arrives 1 = .ok (.getfield 19, 3) := by decide +kernel
theorem dX6_arrives_4 : decode cX6_arrives 4 = .ok (.getfield 102, 3) := by decide +kernel
theorem dX6_arrives_7 : decode cX6_arrives 7 = .ok (.iload_n 1, 1) := by decide +kernel
theorem dX6_arrives_8 : decode cX6_arrives 8 = .ok (.invokestatic 112, 3) := by decide +kernel
theorem dX6_arrives_11 : decode cX6_arrives 11 = .ok (.aload_n 0, 1) := by decide +kernel
theorem dX6_arrives_12 : decode cX6_arrives 12 = .ok (.getfield 23, 3) := by decide +kernel
theorem dX6_arrives_15 : decode cX6_arrives 15 = .ok (.aload_n 0, 1) := by decide +kernel
theorem dX6_arrives_16 : decode cX6_arrives 16 = .ok (.getfield 19, 3) := by decide +kernel
theorem dX6_arrives_19 : decode cX6_arrives 19 = .ok (.invokevirtual 69, 3) := by decide +kernel
theorem dX6_arrives_22 : decode cX6_arrives 22 = .ok (.aload_n 0, 1) := by decide +kernel
theorem dX6_arrives_23 : decode cX6_arrives 23 = .ok (.getfield 23, 3) := by decide +kernel
theorem dX6_arrives_26 : decode cX6_arrives 26 = .ok (.iload_n 1, 1) := by decide +kernel
theorem dX6_arrives_27 : decode cX6_arrives 27 = .ok (.invokevirtual 190, 3) := by decide +kernel
theorem dX6_arrives_30 : decode cX6_arrives 30 = .ok (.ireturn, 1) := by decide +kernel
set_option maxRecDepth 20000 in
theorem ggX6_leaves_X6_checkExists : GoodIn wsX6_leaves wsX6_checkExists := goodIn_ca (goodIn_r _ [7, 8, 9, 10, 11, 12, 13, 14, 15, 201, 202, 203, 204] (by decide +kernel) (by decide +kernel)) (goodIn_sub (fun _ h => List.mem_cons_of_mem _ (List.mem_append_right _ h)) (by decide +kernel))
set_option maxRecDepth 20000 in
theorem gX6_leaves_X6_checkExists : GoodIn wsX6_leaves (va_wsS RX6 112 yX6_checkExists wsX6_checkExists) := goodIn_app (goodIn_of _ (by decide +kernel)) ggX6_leaves_X6_checkExists
set_option maxRecDepth 20000 in
theorem ggX6_leaves_X4_copyFrom : GoodIn wsX6_leaves wsX4_copyFrom := goodIn_r _ [20, 21, 22, 23, 24, 25, 26, 27, 28, 29, 30, 31, 32, 33, 34, 35, 13, 36, 15, 37, 38, 39, 40, 41, 42, 43, 44, 45, 46, 47, 48, 49, 50, 51, 52, 53, 54, 189, 190, 191, 192, 193, 194, 195, 196, 197, 198, 199, 200, 201, 202, 203, 204, 205, 206, 207] (by decide +kernel) (by decide +kernel)
set_option maxRecDepth 20000 in
theorem gX6_leaves_X4_copyFrom : GoodIn wsX6_leaves (wsV RX6 69 RX4 yX4_copyFrom wsX4_copyFrom) := goodIn_app (goodIn_of _ (by decide +kernel)) ggX6_leaves_X4_copyFrom
set_option maxRecDepth 20000 in
theorem ggX6_leaves_X4_firstLeftBy : GoodIn wsX6_leaves wsX4_firstLeftBy := goodIn_r _ [58, 31, 30, 32, 59, 60, 61, 19, 62, 26, 28, 22, 63, 64, 65, 13, 66, 15, 67, 68, 69, 49, 70, 51, 71, 72, 73, 74, 21, 75, 76, 77, 78, 79, 37, 80, 81, 82, 83, 84, 85, 86, 87, 88, 89, 90, 91, 25, 27, 92, 39, 40, 41, 93, 94, 95, 96, 97, 98, 99, 100, 101, 102, 54, 103, 104, 105, 106, 107, 108, 109, 110, 23, 111, 112, 113, 114, 115, 116, 117, 118, 119, 120, 121, 24, 29, 122, 123, 124, 125, 126, 127, 128, 129, 130, 131, 132, 133, 134, 135, 136, 137, 138, 139, 140, 141, 142, 143, 144, 145, 146, 147, 148, 149, 150, 151, 152, 153, 154, 155, 156, 157, 158, 159, 160, 161, 162, 163, 164, 165, 166, 167, 168, 169, 170, 171, 172, 173, 174, 175, 176, 177, 178, 179, 180, 181, 182, 183, 189, 190, 191, 192, 193, 194, 195, 196, 197, 198, 199, 200, 201, 202, 203, 204, 205, 206, 207] (by decide +kernel) (by decide +kernel)
set_option maxRecDepth 20000 in
theorem gX6_leaves_X4_firstLeftBy : GoodIn wsX6_leaves (wsV RX6 193 RX4 yX4_firstLeftBy wsX4_firstLeftBy) := goodIn_app (goodIn_of _ (by decide +kernel)) ggX6_leaves_X4_firstLeftBy
theorem dX6_leaves_0 : decode cX6_leaves 0 = .ok (.aload_n 0, 1) := by decide +kernel
theorem dX6_leaves_1 : decode cX6_leaves 1 = .ok (.getfield 19, 3) := by decide +kernel
theorem dX6_leaves_4 : decode cX6_leaves 4 = .ok (.getfield 102, 3) := by decide +kernel
theorem dX6_leaves_7 : decode cX6_leaves 7 = .ok (.iload_n 1, 1) := by decide +kernel
theorem dX6_leaves_8 : decode cX6_leaves 8 = .ok (.invokestatic 112, 3) := by decide +kernel
theorem dX6_leaves_11 : decode cX6_leaves 11 = .ok (.aload_n 0, 1) := by decide +kernel
theorem dX6_leaves_12 : decode cX6_leaves 12 = .ok (.getfield 23, 3) := by decide +kernel
theorem dX6_leaves_15 : decode cX6_leaves 15 = .ok (.aload_n 0, 1) := by decide +kernel
theorem dX6_leaves_16 : decode cX6_leaves 16 = .ok (.getfield 19, 3) := by decide +kernel
theorem dX6_leaves_19 : decode cX6_leaves 19 = .ok (.invokevirtual 69, 3) := by decide +kernel
theorem dX6_leaves_22 : decode cX6_leaves 22 = .ok (.aload_n 0, 1) := by decide +kernel
theorem dX6_leaves_23 : decode cX6_leaves 23 = .ok (.getfield 23, 3) := by decide +kernel
theorem dX6_leaves_26 : decode cX6_leaves 26 = .ok (.iload_n 1, 1) := by decide +kernel
theorem dX6_leaves_27 : decode cX6_leaves 27 = .ok (.invokevirtual 193, 3) := by decide +kernel
theorem dX6_leaves_30 : decode cX6_leaves 30 = .ok (.ireturn, 1) := by decide +kernel
set_option maxRecDepth 20000 in
theorem ggX6_bestHold_X6_checkExists : GoodIn wsX6_bestHold wsX6_checkExists := goodIn_ca (goodIn_r _ [7, 8, 9, 10, 11, 12, 13, 14, 15, 203, 204, 205, 206] (by decide +kernel) (by decide +kernel)) (goodIn_sub (fun _ h => List.mem_cons_of_mem _ (List.mem_append_right _ h)) (by decide +kernel))
set_option maxRecDepth 20000 in
theorem gX6_bestHold_X6_checkExists : GoodIn wsX6_bestHold (va_wsS RX6 112 yX6_checkExists wsX6_checkExists) := goodIn_app (goodIn_of _ (by decide +kernel)) ggX6_bestHold_X6_checkExists
set_option maxRecDepth 20000 in
theorem ggX6_bestHold_X4_isAtEnd : GoodIn wsX6_bestHold wsX4_isAtEnd := goodIn_r _ [20, 21, 22, 23, 24, 25, 13, 26, 27, 15, 28, 191, 192, 193, 194, 195, 196, 197, 198, 199, 200, 201, 202, 203, 204, 205, 206] (by decide +kernel) (by decide +kernel)
set_option maxRecDepth 20000 in
theorem gX6_bestHold_X4_isAtEnd : GoodIn wsX6_bestHold (wsV RX6 135 RX4 yX4_isAtEnd wsX4_isAtEnd) := goodIn_app (goodIn_of _ (by decide +kernel)) ggX6_bestHold_X4_isAtEnd
set_option maxRecDepth 20000 in
theorem ggX6_bestHold_X4_copyFrom : GoodIn wsX6_bestHold wsX4_copyFrom := goodIn_r _ [32, 22, 33, 34, 35, 36, 21, 37, 38, 39, 40, 41, 42, 43, 44, 45, 13, 46, 15, 28, 47, 48, 49, 50, 51, 52, 53, 54, 55, 56, 57, 58, 59, 60, 61, 62, 63, 191, 192, 193, 194, 195, 196, 197, 198, 199, 200, 201, 202, 203, 204, 205, 206, 207, 208, 209] (by decide +kernel) (by decide +kernel)
set_option maxRecDepth 20000 in
theorem gX6_bestHold_X4_copyFrom : GoodIn wsX6_bestHold (wsV RX6 69 RX4 yX4_copyFrom wsX4_copyFrom) := goodIn_app (goodIn_of _ (by decide +kernel)) ggX6_bestHold_X4_copyFrom
set_option maxRecDepth 20000 in
theorem ggX6_bestHold_X5_put : GoodIn wsX6_bestHold wsX5_put := goodIn_r _ [67, 27, 15, 28, 203, 204, 205, 206] (by decide +kernel) (by decide +kernel)
set_option maxRecDepth 20000 in
theorem gX6_bestHold_X5_put : GoodIn wsX6_bestHold (wsV RX6 176 RX5 yX5_put wsX5_put) := goodIn_app (goodIn_of _ (by decide +kernel)) ggX6_bestHold_X5_put
set_option maxRecDepth 20000 in
theorem ggX6_bestHold_X4_hoursToEnd : GoodIn wsX6_bestHold wsX4_hoursToEnd := goodIn_r _ [71, 40, 72, 17, 18, 19, 20, 21, 22, 23, 24, 25, 13, 26, 27, 15, 28, 73, 74, 75, 76, 38, 33, 77, 78, 79, 80, 81, 82, 83, 58, 84, 60, 85, 86, 87, 88, 89, 90, 91, 92, 93, 94, 95, 96, 36, 37, 97, 48, 49, 50, 98, 99, 100, 101, 102, 103, 104, 105, 106, 107, 63, 108, 109, 110, 111, 112, 113, 114, 115, 34, 116, 117, 118, 119, 120, 121, 122, 123, 124, 125, 126, 35, 39, 127, 128, 129, 130, 131, 132, 133, 134, 135, 136, 137, 138, 139, 140, 141, 142, 143, 144, 145, 146, 147, 148, 65, 66, 67, 149, 150, 151, 152, 41, 42, 153, 154, 155, 156, 157, 158, 159, 160, 161, 162, 163, 164, 165, 166, 167, 168, 169, 170, 171, 172, 173, 174, 175, 176, 177, 178, 179, 180, 181, 182, 183, 184, 185, 191, 192, 193, 194, 195, 196, 197, 198, 199, 200, 201, 202, 203, 204, 205, 206, 207, 208, 209] (by decide +kernel) (by decide +kernel)
set_option maxRecDepth 20000 in
theorem gX6_bestHold_X4_hoursToEnd : GoodIn wsX6_bestHold (wsV RX6 190 RX4 yX4_hoursToEnd wsX4_hoursToEnd) := goodIn_app (goodIn_of _ (by decide +kernel)) ggX6_bestHold_X4_hoursToEnd
theorem dX6_bestHold_0 : decode cX6_bestHold 0 = .ok (.aload_n 0, 1) := by decide +kernel
theorem dX6_bestHold_1 : decode cX6_bestHold 1 = .ok (.getfield 19, 3) := by decide +kernel
theorem dX6_bestHold_4 : decode cX6_bestHold 4 = .ok (.getfield 102, 3) := by decide +kernel
theorem dX6_bestHold_7 : decode cX6_bestHold 7 = .ok (.iload_n 1, 1) := by decide +kernel
theorem dX6_bestHold_8 : decode cX6_bestHold 8 = .ok (.invokestatic 112, 3) := by decide +kernel
theorem dX6_bestHold_11 : decode cX6_bestHold 11 = .ok (.aload_n 0, 1) := by decide +kernel
theorem dX6_bestHold_12 : decode cX6_bestHold 12 = .ok (.getfield 19, 3) := by decide +kernel
theorem dX6_bestHold_15 : decode cX6_bestHold 15 = .ok (.iload_n 1, 1) := by decide +kernel
theorem dX6_bestHold_16 : decode cX6_bestHold 16 = .ok (.invokevirtual 135, 3) := by decide +kernel
theorem dX6_bestHold_19 : decode cX6_bestHold 19 = .ok (.ifCond .eq 5, 3) := by decide +kernel
theorem dX6_bestHold_22 : decode cX6_bestHold 22 = .ok (.iconst 0, 1) := by decide +kernel
theorem dX6_bestHold_23 : decode cX6_bestHold 23 = .ok (.ireturn, 1) := by decide +kernel
theorem dX6_bestHold_24 : decode cX6_bestHold 24 = .ok (.bipush (-9), 2) := by decide +kernel
theorem dX6_bestHold_26 : decode cX6_bestHold 26 = .ok (.istore_n 2, 1) := by decide +kernel
theorem dX6_bestHold_27 : decode cX6_bestHold 27 = .ok (.sipush 301, 3) := by decide +kernel
theorem dX6_bestHold_30 : decode cX6_bestHold 30 = .ok (.istore_n 3, 1) := by decide +kernel
theorem dX6_bestHold_31 : decode cX6_bestHold 31 = .ok (.iconst 0, 1) := by decide +kernel
theorem dX6_bestHold_32 : decode cX6_bestHold 32 = .ok (.istore 4, 2) := by decide +kernel
theorem dX6_bestHold_34 : decode cX6_bestHold 34 = .ok (.iload 4, 2) := by decide +kernel
theorem dX6_bestHold_36 : decode cX6_bestHold 36 = .ok (.bipush 23, 2) := by decide +kernel
theorem dX6_bestHold_38 : decode cX6_bestHold 38 = .ok (.if_icmp .gt 69, 3) := by decide +kernel
theorem dX6_bestHold_41 : decode cX6_bestHold 41 = .ok (.aload_n 0, 1) := by decide +kernel
theorem dX6_bestHold_42 : decode cX6_bestHold 42 = .ok (.getfield 23, 3) := by decide +kernel
theorem dX6_bestHold_45 : decode cX6_bestHold 45 = .ok (.aload_n 0, 1) := by decide +kernel
theorem dX6_bestHold_46 : decode cX6_bestHold 46 = .ok (.getfield 19, 3) := by decide +kernel
theorem dX6_bestHold_49 : decode cX6_bestHold 49 = .ok (.invokevirtual 69, 3) := by decide +kernel
theorem dX6_bestHold_52 : decode cX6_bestHold 52 = .ok (.aload_n 0, 1) := by decide +kernel
theorem dX6_bestHold_53 : decode cX6_bestHold 53 = .ok (.getfield 23, 3) := by decide +kernel
theorem dX6_bestHold_56 : decode cX6_bestHold 56 = .ok (.getfield 102, 3) := by decide +kernel
theorem dX6_bestHold_59 : decode cX6_bestHold 59 = .ok (.iload_n 1, 1) := by decide +kernel
theorem dX6_bestHold_60 : decode cX6_bestHold 60 = .ok (.iconst 1, 1) := by decide +kernel
theorem dX6_bestHold_61 : decode cX6_bestHold 61 = .ok (.iload 4, 2) := by decide +kernel
theorem dX6_bestHold_63 : decode cX6_bestHold 63 = .ok (.invokevirtual 176, 3) := by decide +kernel
theorem dX6_bestHold_66 : decode cX6_bestHold 66 = .ok (.aload_n 0, 1) := by decide +kernel
theorem dX6_bestHold_67 : decode cX6_bestHold 67 = .ok (.getfield 23, 3) := by decide +kernel
theorem dX6_bestHold_70 : decode cX6_bestHold 70 = .ok (.iload_n 1, 1) := by decide +kernel
theorem dX6_bestHold_71 : decode cX6_bestHold 71 = .ok (.invokevirtual 190, 3) := by decide +kernel
theorem dX6_bestHold_74 : decode cX6_bestHold 74 = .ok (.istore 5, 2) := by decide +kernel
theorem dX6_bestHold_76 : decode cX6_bestHold 76 = .ok (.iload 5, 2) := by decide +kernel
theorem dX6_bestHold_78 : decode cX6_bestHold 78 = .ok (.bipush (-9), 2) := by decide +kernel
theorem dX6_bestHold_80 : decode cX6_bestHold 80 = .ok (.if_icmp .eq 21, 3) := by decide +kernel
theorem dX6_bestHold_83 : decode cX6_bestHold 83 = .ok (.iload 5, 2) := by decide +kernel
theorem dX6_bestHold_85 : decode cX6_bestHold 85 = .ok (.iload 4, 2) := by decide +kernel
theorem dX6_bestHold_87 : decode cX6_bestHold 87 = .ok (.isub, 1) := by decide +kernel
theorem dX6_bestHold_88 : decode cX6_bestHold 88 = .ok (.iload_n 3, 1) := by decide +kernel
theorem dX6_bestHold_89 : decode cX6_bestHold 89 = .ok (.if_icmp .ge 12, 3) := by decide +kernel
theorem dX6_bestHold_92 : decode cX6_bestHold 92 = .ok (.iload 4, 2) := by decide +kernel
theorem dX6_bestHold_94 : decode cX6_bestHold 94 = .ok (.istore_n 2, 1) := by decide +kernel
theorem dX6_bestHold_95 : decode cX6_bestHold 95 = .ok (.iload 5, 2) := by decide +kernel
theorem dX6_bestHold_97 : decode cX6_bestHold 97 = .ok (.iload 4, 2) := by decide +kernel
theorem dX6_bestHold_99 : decode cX6_bestHold 99 = .ok (.isub, 1) := by decide +kernel
theorem dX6_bestHold_100 : decode cX6_bestHold 100 = .ok (.istore_n 3, 1) := by decide +kernel
theorem dX6_bestHold_101 : decode cX6_bestHold 101 = .ok (.iinc 4 1, 3) := by decide +kernel
theorem dX6_bestHold_104 : decode cX6_bestHold 104 = .ok (.goto (-70), 3) := by decide +kernel
theorem dX6_bestHold_107 : decode cX6_bestHold 107 = .ok (.iload_n 2, 1) := by decide +kernel
theorem dX6_bestHold_108 : decode cX6_bestHold 108 = .ok (.ireturn, 1) := by decide +kernel
set_option maxRecDepth 20000 in
theorem ggX6_lacks_X6_checkExists : GoodIn wsX6_lacks wsX6_checkExists := goodIn_ca (goodIn_r _ [7, 8, 9, 10, 11, 12, 13, 14, 15, 206, 207, 208, 209] (by decide +kernel) (by decide +kernel)) (goodIn_sub (fun _ h => List.mem_cons_of_mem _ (List.mem_append_right _ h)) (by decide +kernel))
set_option maxRecDepth 20000 in
theorem gX6_lacks_X6_checkExists : GoodIn wsX6_lacks (va_wsS RX6 112 yX6_checkExists wsX6_checkExists) := goodIn_app (goodIn_of _ (by decide +kernel)) ggX6_lacks_X6_checkExists
set_option maxRecDepth 20000 in
theorem ggX6_lacks_X4_copyFrom : GoodIn wsX6_lacks wsX4_copyFrom := goodIn_r _ [20, 21, 22, 23, 24, 25, 26, 27, 28, 29, 30, 31, 32, 33, 34, 35, 13, 36, 15, 37, 38, 39, 40, 41, 42, 43, 44, 45, 46, 47, 48, 49, 50, 51, 52, 53, 54, 194, 195, 196, 197, 198, 199, 200, 201, 202, 203, 204, 205, 206, 207, 208, 209, 210, 211, 212] (by decide +kernel) (by decide +kernel)
set_option maxRecDepth 20000 in
theorem gX6_lacks_X4_copyFrom : GoodIn wsX6_lacks (wsV RX6 69 RX4 yX4_copyFrom wsX4_copyFrom) := goodIn_app (goodIn_of _ (by decide +kernel)) ggX6_lacks_X4_copyFrom
set_option maxRecDepth 20000 in
theorem ggX6_lacks_X5_raise : GoodIn wsX6_lacks wsX5_raise := goodIn_r _ [58, 59, 15, 37, 206, 207, 208, 209] (by decide +kernel) (by decide +kernel)
set_option maxRecDepth 20000 in
theorem gX6_lacks_X5_raise : GoodIn wsX6_lacks (wsV RX6 179 RX5 yX5_raise wsX5_raise) := goodIn_app (goodIn_of _ (by decide +kernel)) ggX6_lacks_X5_raise
set_option maxRecDepth 20000 in
theorem ggX6_lacks_X4_allArrive : GoodIn wsX6_lacks wsX4_allArrive := goodIn_r _ [63, 30, 27, 64, 65, 66, 19, 67, 26, 28, 22, 68, 69, 70, 13, 71, 15, 72, 73, 74, 49, 75, 51, 76, 77, 78, 79, 21, 80, 81, 82, 83, 59, 37, 84, 85, 86, 87, 88, 56, 57, 58, 89, 90, 91, 92, 25, 93, 39, 40, 41, 94, 95, 96, 97, 98, 99, 100, 101, 102, 103, 54, 104, 105, 106, 107, 108, 109, 110, 111, 23, 112, 113, 114, 115, 116, 117, 118, 119, 120, 121, 122, 24, 29, 123, 124, 125, 126, 127, 128, 129, 130, 131, 132, 133, 134, 135, 136, 137, 138, 139, 140, 141, 142, 143, 144, 145, 146, 147, 148, 149, 150, 151, 31, 32, 152, 153, 154, 155, 156, 157, 158, 159, 160, 161, 162, 163, 164, 165, 166, 167, 168, 169, 170, 171, 172, 173, 174, 175, 176, 177, 178, 179, 180, 181, 182, 183, 184, 185, 186, 187, 188, 194, 195, 196, 197, 198, 199, 200, 201, 202, 203, 204, 205, 206, 207, 208, 209, 210, 211, 212] (by decide +kernel) (by decide +kernel)
set_option maxRecDepth 20000 in
theorem gX6_lacks_X4_allArrive : GoodIn wsX6_lacks (wsV RX6 196 RX4 yX4_allArrive wsX4_allArrive) := goodIn_app (goodIn_of _ (by decide +kernel)) ggX6_lacks_X4_allArrive
theorem dX6_lacks_0 : decode cX6_lacks 0 = .ok (.aload_n 0, 1) := by decide +kernel
theorem dX6_lacks_1 : decode cX6_lacks 1 = .ok (.getfield 19, 3) := by decide +kernel
theorem dX6_lacks_4 : decode cX6_lacks 4 = .ok (.getfield 99, 3) := by decide +kernel
theorem dX6_lacks_7 : decode cX6_lacks 7 = .ok (.iload_n 1, 1) := by decide +kernel
theorem dX6_lacks_8 : decode cX6_lacks 8 = .ok (.invokestatic 112, 3) := by decide +kernel
theorem dX6_lacks_11 : decode cX6_lacks 11 = .ok (.iconst 0, 1) := by decide +kernel
theorem dX6_lacks_12 : decode cX6_lacks 12 = .ok (.istore_n 2, 1) := by decide +kernel
theorem dX6_lacks_13 : decode cX6_lacks 13 = .ok (.iload_n 2, 1) := by decide +kernel
theorem dX6_lacks_14 : decode cX6_lacks 14 = .ok (.bipush 40, 2) := by decide +kernel
theorem dX6_lacks_16 : decode cX6_lacks 16 = .ok (.if_icmp .gt 45, 3) := by decide +kernel
theorem dX6_lacks_19 : decode cX6_lacks 19 = .ok (.aload_n 0, 1) := by decide +kernel
theorem dX6_lacks_20 : decode cX6_lacks 20 = .ok (.getfield 23, 3) := by decide +kernel
theorem dX6_lacks_23 : decode cX6_lacks 23 = .ok (.aload_n 0, 1) := by decide +kernel
theorem dX6_lacks_24 : decode cX6_lacks 24 = .ok (.getfield 19, 3) := by decide +kernel
theorem dX6_lacks_27 : decode cX6_lacks 27 = .ok (.invokevirtual 69, 3) := by decide +kernel
theorem dX6_lacks_30 : decode cX6_lacks 30 = .ok (.aload_n 0, 1) := by decide +kernel
theorem dX6_lacks_31 : decode cX6_lacks 31 = .ok (.getfield 23, 3) := by decide +kernel
theorem dX6_lacks_34 : decode cX6_lacks 34 = .ok (.getfield 99, 3) := by decide +kernel
theorem dX6_lacks_37 : decode cX6_lacks 37 = .ok (.iload_n 1, 1) := by decide +kernel
theorem dX6_lacks_38 : decode cX6_lacks 38 = .ok (.iconst 1, 1) := by decide +kernel
theorem dX6_lacks_39 : decode cX6_lacks 39 = .ok (.iload_n 2, 1) := by decide +kernel
theorem dX6_lacks_40 : decode cX6_lacks 40 = .ok (.invokevirtual 179, 3) := by decide +kernel
theorem dX6_lacks_43 : decode cX6_lacks 43 = .ok (.aload_n 0, 1) := by decide +kernel
theorem dX6_lacks_44 : decode cX6_lacks 44 = .ok (.getfield 23, 3) := by decide +kernel
theorem dX6_lacks_47 : decode cX6_lacks 47 = .ok (.invokevirtual 196, 3) := by decide +kernel
theorem dX6_lacks_50 : decode cX6_lacks 50 = .ok (.ifCond .eq 5, 3) := by decide +kernel
theorem dX6_lacks_53 : decode cX6_lacks 53 = .ok (.iload_n 2, 1) := by decide +kernel
theorem dX6_lacks_54 : decode cX6_lacks 54 = .ok (.ireturn, 1) := by decide +kernel
theorem dX6_lacks_55 : decode cX6_lacks 55 = .ok (.iinc 2 1, 3) := by decide +kernel
theorem dX6_lacks_58 : decode cX6_lacks 58 = .ok (.goto (-45), 3) := by decide +kernel
theorem dX6_lacks_61 : decode cX6_lacks 61 = .ok (.bipush (-9), 2) := by decide +kernel
theorem dX6_lacks_63 : decode cX6_lacks 63 = .ok (.ireturn, 1) := by decide +kernel
set_option maxRecDepth 20000 in
theorem ggX6_runScript_X6_checkRange : GoodIn wsX6_runScript wsX6_checkRange := goodIn_ca (goodIn_r _ [7, 8, 9, 6, 10, 11, 12, 13, 14, 15] (by decide +kernel) (by decide +kernel)) (goodIn_sub (fun _ h => List.mem_cons_of_mem _ (List.mem_append_right _ h)) (by decide +kernel))
set_option maxRecDepth 20000 in
theorem gX6_runScript_X6_checkRange : GoodIn wsX6_runScript (va_wsS RX6 45 yX6_checkRange wsX6_checkRange) := goodIn_app (goodIn_of _ (by decide +kernel)) ggX6_runScript_X6_checkRange
set_option maxRecDepth 20000 in
theorem ggX6_runScript_X6_refuseArgumentIf : GoodIn wsX6_runScript wsX6_refuseArgumentIf := goodIn_ca (goodIn_r _ [13, 14, 15] (by decide +kernel) (by decide +kernel)) (goodIn_sub (fun _ h => List.mem_cons_of_mem _ (List.mem_append_right _ h)) (by decide +kernel))
set_option maxRecDepth 20000 in
theorem gX6_runScript_X6_refuseArgumentIf : GoodIn wsX6_runScript (va_wsS RX6 139 yX6_refuseArgumentIf wsX6_refuseArgumentIf) := goodIn_app (goodIn_of _ (by decide +kernel)) ggX6_runScript_X6_refuseArgumentIf
set_option maxRecDepth 20000 in
theorem ggX6_runScript_X4_copyFrom : GoodIn wsX6_runScript wsX4_copyFrom := goodIn_r _ [20, 21, 22, 23, 24, 25, 26, 27, 28, 29, 30, 31, 32, 33, 34, 35, 36, 37, 38, 39, 40, 41, 42, 43, 44, 45, 46, 47, 48, 49, 50, 51, 52, 53, 54, 55, 56, 214, 215, 216, 217, 218, 219, 220, 221, 222, 223, 224, 225, 226, 227, 228, 229, 230, 231, 232] (by decide +kernel) (by decide +kernel)
set_option maxRecDepth 20000 in
theorem gX6_runScript_X4_copyFrom : GoodIn wsX6_runScript (wsV RX6 69 RX4 yX4_copyFrom wsX4_copyFrom) := goodIn_app (goodIn_of _ (by decide +kernel)) ggX6_runScript_X4_copyFrom
set_option maxRecDepth 20000 in
theorem ggX6_runScript_X6_groupOf : GoodIn wsX6_runScript wsX6_groupOf := goodIn_r _ [59, 1] (by decide +kernel) (by decide +kernel)
set_option maxRecDepth 20000 in
theorem gX6_runScript_X6_groupOf : GoodIn wsX6_runScript (va_wsS RX6 201 yX6_groupOf wsX6_groupOf) := goodIn_app (goodIn_of _ (by decide +kernel)) ggX6_runScript_X6_groupOf
set_option maxRecDepth 20000 in
theorem ggX6_runScript_X4_obeys : GoodIn wsX6_runScript wsX4_obeys := goodIn_r _ [63, 26, 27, 23, 24, 29, 64, 65, 66, 19, 67, 9, 6, 10, 68, 69, 70, 71, 30, 28, 22, 72, 73, 74, 36, 75, 38, 76, 77, 78, 51, 79, 53, 80, 81, 82, 83, 21, 84, 85, 86, 87, 88, 39, 89, 90, 91, 92, 93, 94, 95, 96, 97, 98, 99, 100, 25, 101, 41, 42, 43, 102, 103, 104, 105, 106, 107, 108, 109, 110, 111, 56, 112, 113, 114, 115, 116, 117, 118, 119, 120, 121, 122, 123, 124, 125, 126, 127, 128, 129, 130, 131, 132, 133, 134, 135, 136, 137, 138, 139, 140, 141, 142, 143, 144, 145, 146, 147, 148, 149, 150, 151, 152, 153, 154, 155, 156, 157, 158, 159, 31, 32, 160, 161, 162, 163, 164, 165, 166, 167, 168, 169, 170, 171, 172, 173, 174, 175, 176, 177, 178, 179, 180, 181, 182, 183, 184, 185, 186, 187, 188, 189, 190, 191, 192, 193, 194, 195, 196, 197, 198, 199, 200, 201, 202, 203, 204, 205, 206, 207, 208, 214, 215, 216, 217, 218, 219, 220, 221, 222, 223, 224, 225, 226, 227, 228, 229, 230, 231, 232] (by decide +kernel) (by decide +kernel)
set_option maxRecDepth 20000 in
theorem gX6_runScript_X4_obeys : GoodIn wsX6_runScript (wsV RX6 205 RX4 yX4_obeys wsX4_obeys) := goodIn_app (goodIn_of _ (by decide +kernel)) ggX6_runScript_X4_obeys
theorem dX6_runScript_0 : decode cX6_runScript 0 = .ok (.iload_n 1, 1) := by decide +kernel
theorem dX6_runScript_1 : decode cX6_runScript 1 = .ok (.iconst 1, 1) := by decide +kernel
theorem dX6_runScript_2 : decode cX6_runScript 2 = .ok (.iconst 3, 1) := by decide +kernel
theorem dX6_runScript_3 : decode cX6_runScript 3 = .ok (.invokestatic 45, 3) := by decide +kernel
theorem dX6_runScript_6 : decode cX6_runScript 6 = .ok (.lconst 1, 1) := by decide +kernel
theorem dX6_runScript_7 : decode cX6_runScript 7 = .ok (.lstore 4, 2) := by decide +kernel
theorem dX6_runScript_9 : decode cX6_runScript 9 = .ok (.iconst 0, 1) := by decide +kernel
theorem dX6_runScript_10 : decode cX6_runScript 10 = .ok (.istore 6, 2) := by decide +kernel
theorem dX6_runScript_12 : decode cX6_runScript 12 = .ok (.iload 6, 2) := by decide +kernel
theorem dX6_runScript_14 : decode cX6_runScript 14 = .ok (.iload_n 1, 1) := by decide +kernel
theorem dX6_runScript_15 : decode cX6_runScript 15 = .ok (.if_icmp .ge 17, 3) := by decide +kernel
theorem dX6_runScript_18 : decode cX6_runScript 18 = .ok (.lload 4, 2) := by decide +kernel
theorem dX6_runScript_20 : decode cX6_runScript 20 = .ok (.ldc2_w 199, 3) := by decide +kernel
theorem dX6_runScript_23 : decode cX6_runScript 23 = .ok (.lmul, 1) := by decide +kernel
theorem dX6_runScript_24 : decode cX6_runScript 24 = .ok (.lstore 4, 2) := by decide +kernel
theorem dX6_runScript_26 : decode cX6_runScript 26 = .ok (.iinc 6 1, 3) := by decide +kernel
theorem dX6_runScript_29 : decode cX6_runScript 29 = .ok (.goto (-17), 3) := by decide +kernel
theorem dX6_runScript_32 : decode cX6_runScript 32 = .ok (.lload_n 2, 1) := by decide +kernel
theorem dX6_runScript_33 : decode cX6_runScript 33 = .ok (.lconst 0, 1) := by decide +kernel
theorem dX6_runScript_34 : decode cX6_runScript 34 = .ok (.lcmp, 1) := by decide +kernel
theorem dX6_runScript_35 : decode cX6_runScript 35 = .ok (.ifCond .lt 10, 3) := by decide +kernel
theorem dX6_runScript_38 : decode cX6_runScript 38 = .ok (.lload_n 2, 1) := by decide +kernel
theorem dX6_runScript_39 : decode cX6_runScript 39 = .ok (.lload 4, 2) := by decide +kernel
theorem dX6_runScript_41 : decode cX6_runScript 41 = .ok (.lcmp, 1) := by decide +kernel
theorem dX6_runScript_42 : decode cX6_runScript 42 = .ok (.ifCond .lt 7, 3) := by decide +kernel
theorem dX6_runScript_45 : decode cX6_runScript 45 = .ok (.iconst 1, 1) := by decide +kernel
theorem dX6_runScript_46 : decode cX6_runScript 46 = .ok (.goto 4, 3) := by decide +kernel
theorem dX6_runScript_49 : decode cX6_runScript 49 = .ok (.iconst 0, 1) := by decide +kernel
theorem dX6_runScript_50 : decode cX6_runScript 50 = .ok (.invokestatic 139, 3) := by decide +kernel
theorem dX6_runScript_53 : decode cX6_runScript 53 = .ok (.aload_n 0, 1) := by decide +kernel
theorem dX6_runScript_54 : decode cX6_runScript 54 = .ok (.getfield 23, 3) := by decide +kernel
theorem dX6_runScript_57 : decode cX6_runScript 57 = .ok (.aload_n 0, 1) := by decide +kernel
theorem dX6_runScript_58 : decode cX6_runScript 58 = .ok (.getfield 19, 3) := by decide +kernel
theorem dX6_runScript_61 : decode cX6_runScript 61 = .ok (.invokevirtual 69, 3) := by decide +kernel
theorem dX6_runScript_64 : decode cX6_runScript 64 = .ok (.iconst 0, 1) := by decide +kernel
theorem dX6_runScript_65 : decode cX6_runScript 65 = .ok (.istore 6, 2) := by decide +kernel
theorem dX6_runScript_67 : decode cX6_runScript 67 = .ok (.iload 6, 2) := by decide +kernel
theorem dX6_runScript_69 : decode cX6_runScript 69 = .ok (.iload_n 1, 1) := by decide +kernel
theorem dX6_runScript_70 : decode cX6_runScript 70 = .ok (.if_icmp .ge 32, 3) := by decide +kernel
theorem dX6_runScript_73 : decode cX6_runScript 73 = .ok (.aload_n 0, 1) := by decide +kernel
theorem dX6_runScript_74 : decode cX6_runScript 74 = .ok (.getfield 23, 3) := by decide +kernel
theorem dX6_runScript_77 : decode cX6_runScript 77 = .ok (.lload_n 2, 1) := by decide +kernel
theorem dX6_runScript_78 : decode cX6_runScript 78 = .ok (.iload_n 1, 1) := by decide +kernel
theorem dX6_runScript_79 : decode cX6_runScript 79 = .ok (.iconst 1, 1) := by decide +kernel
theorem dX6_runScript_80 : decode cX6_runScript 80 = .ok (.isub, 1) := by decide +kernel
theorem dX6_runScript_81 : decode cX6_runScript 81 = .ok (.iload 6, 2) := by decide +kernel
theorem dX6_runScript_83 : decode cX6_runScript 83 = .ok (.isub, 1) := by decide +kernel
theorem dX6_runScript_84 : decode cX6_runScript 84 = .ok (.invokestatic 201, 3) := by decide +kernel
theorem dX6_runScript_87 : decode cX6_runScript 87 = .ok (.invokevirtual 205, 3) := by decide +kernel
theorem dX6_runScript_90 : decode cX6_runScript 90 = .ok (.ifCond .ne 6, 3) := by decide +kernel
theorem dX6_runScript_93 : decode cX6_runScript 93 = .ok (.iload 6, 2) := by decide +kernel
theorem dX6_runScript_95 : decode cX6_runScript 95 = .ok (.ireturn, 1) := by decide +kernel
theorem dX6_runScript_96 : decode cX6_runScript 96 = .ok (.iinc 6 1, 3) := by decide +kernel
theorem dX6_runScript_99 : decode cX6_runScript 99 = .ok (.goto (-32), 3) := by decide +kernel
theorem dX6_runScript_102 : decode cX6_runScript 102 = .ok (.bipush (-9), 2) := by decide +kernel
theorem dX6_runScript_104 : decode cX6_runScript 104 = .ok (.ireturn, 1) := by decide +kernel
set_option maxRecDepth 20000 in
theorem ggX6_simulate_X6_checkRange : GoodIn wsX6_simulate wsX6_checkRange := goodIn_ca (goodIn_r _ [9, 10, 11, 8, 12, 13, 14, 15, 16, 17] (by decide +kernel) (by decide +kernel)) (goodIn_sub (fun _ h => List.mem_cons_of_mem _ (List.mem_append_right _ h)) (by decide +kernel))
set_option maxRecDepth 20000 in
theorem gX6_simulate_X6_checkRange : GoodIn wsX6_simulate (va_wsS RX6 45 yX6_checkRange wsX6_checkRange) := goodIn_app (goodIn_of _ (by decide +kernel)) ggX6_simulate_X6_checkRange
set_option maxRecDepth 20000 in
theorem ggX6_simulate_X4_copyFrom : GoodIn wsX6_simulate wsX4_copyFrom := goodIn_r _ [22, 23, 24, 25, 26, 27, 28, 29, 30, 31, 32, 33, 34, 35, 36, 37, 38, 39, 40, 41, 42, 43, 44, 45, 46, 47, 48, 49, 50, 51, 52, 53, 54, 55, 56, 57, 58, 201, 202, 203, 204, 205, 206, 207, 208, 209, 210, 211, 212, 213, 214, 215, 216, 217, 218, 219] (by decide +kernel) (by decide +kernel)
set_option maxRecDepth 20000 in
theorem gX6_simulate_X4_copyFrom : GoodIn wsX6_simulate (wsV RX6 69 RX4 yX4_copyFrom wsX4_copyFrom) := goodIn_app (goodIn_of _ (by decide +kernel)) ggX6_simulate_X4_copyFrom
set_option maxRecDepth 20000 in
theorem ggX6_simulate_X4_howMany : GoodIn wsX6_simulate wsX4_howMany := goodIn_r _ [62, 29, 63, 64, 65, 38, 66, 40, 67, 68, 69, 70, 71, 41, 201, 202, 203, 204, 205, 206, 207, 208, 209, 210, 211, 212, 213, 214, 215, 216] (by decide +kernel) (by decide +kernel)
set_option maxRecDepth 20000 in
theorem gX6_simulate_X4_howMany : GoodIn wsX6_simulate (wsV RX6 105 RX4 yX4_howMany wsX4_howMany) := goodIn_app (goodIn_of _ (by decide +kernel)) ggX6_simulate_X4_howMany
set_option maxRecDepth 20000 in
theorem ggX6_simulate_X5_sum : GoodIn wsX6_simulate wsX5_sum := goodIn_r _ [75, 40, 76, 68, 69, 38, 70, 71, 41, 213, 214, 215, 216] (by decide +kernel) (by decide +kernel)
set_option maxRecDepth 20000 in
theorem gX6_simulate_X5_sum : GoodIn wsX6_simulate (wsV RX6 109 RX5 yX5_sum wsX5_sum) := goodIn_app (goodIn_of _ (by decide +kernel)) ggX6_simulate_X5_sum
set_option maxRecDepth 20000 in
theorem ggX6_simulate_X4_meetChance : GoodIn wsX6_simulate wsX4_meetChance := goodIn_r _ [80, 28, 27, 81, 43, 44, 45, 63, 64, 65, 38, 66, 40, 82, 83, 84, 85, 71, 41, 67, 68, 69, 70, 201, 202, 203, 204, 205, 206, 207, 208, 209, 210, 211, 212, 213, 214, 215, 216] (by decide +kernel) (by decide +kernel)
set_option maxRecDepth 20000 in
theorem gX6_simulate_X4_meetChance : GoodIn wsX6_simulate (wsV RX6 212 RX4 yX4_meetChance wsX4_meetChance) := goodIn_app (goodIn_of _ (by decide +kernel)) ggX6_simulate_X4_meetChance
set_option maxRecDepth 20000 in
theorem ggX6_simulate_X4_letHourGoBy : GoodIn wsX6_simulate wsX4_letHourGoBy := goodIn_r _ [89, 32, 28, 30, 24, 63, 64, 65, 38, 66, 40, 90, 91, 92, 53, 93, 55, 94, 95, 96, 21, 97, 23, 67, 68, 69, 70, 71, 41, 98, 99, 100, 101, 102, 103, 104, 105, 106, 107, 108, 109, 27, 29, 81, 43, 44, 45, 110, 111, 112, 113, 76, 114, 115, 116, 117, 118, 58, 119, 120, 121, 122, 123, 124, 125, 126, 25, 127, 128, 129, 130, 131, 132, 133, 134, 135, 136, 137, 26, 31, 138, 139, 140, 141, 142, 143, 144, 145, 146, 147, 148, 149, 150, 151, 152, 153, 154, 155, 156, 157, 158, 82, 83, 84, 85, 159, 160, 161, 162, 33, 34, 163, 164, 165, 166, 167, 168, 169, 170, 171, 172, 173, 174, 175, 176, 177, 178, 179, 180, 181, 182, 183, 184, 185, 186, 187, 188, 189, 190, 191, 192, 193, 194, 195, 201, 202, 203, 204, 205, 206, 207, 208, 209, 210, 211, 212, 213, 214, 215, 216, 217, 218, 219] (by decide +kernel) (by decide +kernel)
set_option maxRecDepth 20000 in
theorem gX6_simulate_X4_letHourGoBy : GoodIn wsX6_simulate (wsV RX6 215 RX4 yX4_letHourGoBy wsX4_letHourGoBy) := goodIn_app (goodIn_of _ (by decide +kernel)) ggX6_simulate_X4_letHourGoBy
theorem dX6_simulate_0 : decode cX6_simulate 0 = .ok (.iload_n 3, 1) := by decide +kernel
theorem dX6_simulate_1 : decode cX6_simulate 1 = .ok (.iconst 1, 1) := by decide +kernel
theorem dX6_simulate_2 : decode cX6_simulate 2 = .ok (.bipush 99, 2) := by decide +kernel
theorem dX6_simulate_4 : decode cX6_simulate 4 = .ok (.invokestatic 45, 3) := by decide +kernel
theorem dX6_simulate_7 : decode cX6_simulate 7 = .ok (.aload_n 0, 1) := by decide +kernel
theorem dX6_simulate_8 : decode cX6_simulate 8 = .ok (.getfield 23, 3) := by decide +kernel
theorem dX6_simulate_11 : decode cX6_simulate 11 = .ok (.aload_n 0, 1) := by decide +kernel
theorem dX6_simulate_12 : decode cX6_simulate 12 = .ok (.getfield 19, 3) := by decide +kernel
theorem dX6_simulate_15 : decode cX6_simulate 15 = .ok (.invokevirtual 69, 3) := by decide +kernel
theorem dX6_simulate_18 : decode cX6_simulate 18 = .ok (.aload_n 0, 1) := by decide +kernel
theorem dX6_simulate_19 : decode cX6_simulate 19 = .ok (.getfield 23, 3) := by decide +kernel
theorem dX6_simulate_22 : decode cX6_simulate 22 = .ok (.iconst 2, 1) := by decide +kernel
theorem dX6_simulate_23 : decode cX6_simulate 23 = .ok (.invokevirtual 105, 3) := by decide +kernel
theorem dX6_simulate_26 : decode cX6_simulate 26 = .ok (.istore 4, 2) := by decide +kernel
theorem dX6_simulate_28 : decode cX6_simulate 28 = .ok (.aload_n 0, 1) := by decide +kernel
theorem dX6_simulate_29 : decode cX6_simulate 29 = .ok (.getfield 23, 3) := by decide +kernel
theorem dX6_simulate_32 : decode cX6_simulate 32 = .ok (.getfield 78, 3) := by decide +kernel
theorem dX6_simulate_35 : decode cX6_simulate 35 = .ok (.bipush 6, 2) := by decide +kernel
theorem dX6_simulate_37 : decode cX6_simulate 37 = .ok (.invokevirtual 109, 3) := by decide +kernel
theorem dX6_simulate_40 : decode cX6_simulate 40 = .ok (.istore 5, 2) := by decide +kernel
theorem dX6_simulate_42 : decode cX6_simulate 42 = .ok (.lload_n 1, 1) := by decide +kernel
theorem dX6_simulate_43 : decode cX6_simulate 43 = .ok (.lstore 6, 2) := by decide +kernel
theorem dX6_simulate_45 : decode cX6_simulate 45 = .ok (.iconst 0, 1) := by decide +kernel
theorem dX6_simulate_46 : decode cX6_simulate 46 = .ok (.istore 8, 2) := by decide +kernel
theorem dX6_simulate_48 : decode cX6_simulate 48 = .ok (.iload 8, 2) := by decide +kernel
theorem dX6_simulate_50 : decode cX6_simulate 50 = .ok (.iload_n 3, 1) := by decide +kernel
theorem dX6_simulate_51 : decode cX6_simulate 51 = .ok (.if_icmp .ge 41, 3) := by decide +kernel
theorem dX6_simulate_54 : decode cX6_simulate 54 = .ok (.lload 6, 2) := by decide +kernel
theorem dX6_simulate_56 : decode cX6_simulate 56 = .ok (.ldc2_w 208, 3) := by decide +kernel
theorem dX6_simulate_59 : decode cX6_simulate 59 = .ok (.lmul, 1) := by decide +kernel
theorem dX6_simulate_60 : decode cX6_simulate 60 = .ok (.ldc2_w 210, 3) := by decide +kernel
theorem dX6_simulate_63 : decode cX6_simulate 63 = .ok (.ladd, 1) := by decide +kernel
theorem dX6_simulate_64 : decode cX6_simulate 64 = .ok (.lstore 6, 2) := by decide +kernel
theorem dX6_simulate_66 : decode cX6_simulate 66 = .ok (.aload_n 0, 1) := by decide +kernel
theorem dX6_simulate_67 : decode cX6_simulate 67 = .ok (.getfield 23, 3) := by decide +kernel
theorem dX6_simulate_70 : decode cX6_simulate 70 = .ok (.lload 6, 2) := by decide +kernel
theorem dX6_simulate_72 : decode cX6_simulate 72 = .ok (.bipush 33, 2) := by decide +kernel
theorem dX6_simulate_74 : decode cX6_simulate 74 = .ok (.lushr, 1) := by decide +kernel
theorem dX6_simulate_75 : decode cX6_simulate 75 = .ok (.l2i, 1) := by decide +kernel
theorem dX6_simulate_76 : decode cX6_simulate 76 = .ok (.invokevirtual 212, 3) := by decide +kernel
theorem dX6_simulate_79 : decode cX6_simulate 79 = .ok (.aload_n 0, 1) := by decide +kernel
theorem dX6_simulate_80 : decode cX6_simulate 80 = .ok (.getfield 23, 3) := by decide +kernel
theorem dX6_simulate_83 : decode cX6_simulate 83 = .ok (.invokevirtual 215, 3) := by decide +kernel
theorem dX6_simulate_86 : decode cX6_simulate 86 = .ok (.iinc 8 1, 3) := by decide +kernel
theorem dX6_simulate_89 : decode cX6_simulate 89 = .ok (.goto (-41), 3) := by decide +kernel
theorem dX6_simulate_92 : decode cX6_simulate 92 = .ok (.aload_n 0, 1) := by decide +kernel
theorem dX6_simulate_93 : decode cX6_simulate 93 = .ok (.getfield 23, 3) := by decide +kernel
theorem dX6_simulate_96 : decode cX6_simulate 96 = .ok (.iconst 2, 1) := by decide +kernel
theorem dX6_simulate_97 : decode cX6_simulate 97 = .ok (.invokevirtual 105, 3) := by decide +kernel
theorem dX6_simulate_100 : decode cX6_simulate 100 = .ok (.iload 4, 2) := by decide +kernel
theorem dX6_simulate_102 : decode cX6_simulate 102 = .ok (.isub, 1) := by decide +kernel
theorem dX6_simulate_103 : decode cX6_simulate 103 = .ok (.istore 8, 2) := by decide +kernel
theorem dX6_simulate_105 : decode cX6_simulate 105 = .ok (.sipush 10000, 3) := by decide +kernel
theorem dX6_simulate_108 : decode cX6_simulate 108 = .ok (.iload 8, 2) := by decide +kernel
theorem dX6_simulate_110 : decode cX6_simulate 110 = .ok (.imul, 1) := by decide +kernel
theorem dX6_simulate_111 : decode cX6_simulate 111 = .ok (.aload_n 0, 1) := by decide +kernel
theorem dX6_simulate_112 : decode cX6_simulate 112 = .ok (.getfield 23, 3) := by decide +kernel
theorem dX6_simulate_115 : decode cX6_simulate 115 = .ok (.getfield 78, 3) := by decide +kernel
theorem dX6_simulate_118 : decode cX6_simulate 118 = .ok (.bipush 6, 2) := by decide +kernel
theorem dX6_simulate_120 : decode cX6_simulate 120 = .ok (.invokevirtual 109, 3) := by decide +kernel
theorem dX6_simulate_123 : decode cX6_simulate 123 = .ok (.iadd, 1) := by decide +kernel
theorem dX6_simulate_124 : decode cX6_simulate 124 = .ok (.iload 5, 2) := by decide +kernel
theorem dX6_simulate_126 : decode cX6_simulate 126 = .ok (.isub, 1) := by decide +kernel
theorem dX6_simulate_127 : decode cX6_simulate 127 = .ok (.ireturn, 1) := by decide +kernel
set_option maxRecDepth 20000 in
theorem ggX6_save_X6_checkSlot : GoodIn wsX6_save wsX6_checkSlot := goodIn_ca (goodIn_r _ [6, 7, 8, 9, 10, 5, 11] (by decide +kernel) (by decide +kernel)) (goodIn_sub (fun _ h => List.mem_cons_of_mem _ (List.mem_append_right _ h)) (by decide +kernel))
set_option maxRecDepth 20000 in
theorem gX6_save_X6_checkSlot : GoodIn wsX6_save (va_wsS RX6 218 yX6_checkSlot wsX6_checkSlot) := goodIn_app (goodIn_of _ (by decide +kernel)) ggX6_save_X6_checkSlot
set_option maxRecDepth 20000 in
theorem ggX6_save_X3_keep : GoodIn wsX6_save wsX3_keep := goodIn_r _ [16, 17, 18, 19, 20, 15, 21, 22, 23, 24, 25, 26, 27, 28, 29, 30, 31, 32, 33, 34, 35, 36, 37, 38, 39, 40, 41, 42, 43, 44, 45, 46, 47, 48, 49, 50, 51, 52, 53, 54, 55, 56, 57, 58, 59, 60, 61, 62, 63, 73, 74, 75, 76, 77, 78, 79, 80, 81, 82, 83, 84, 85, 86, 87, 88, 89, 90, 91, 92, 93] (by decide +kernel) (by decide +kernel)
set_option maxRecDepth 20000 in
theorem gX6_save_X3_keep : GoodIn wsX6_save (wsV RX6 221 RX3 yX3_keep wsX3_keep) := goodIn_app (goodIn_of _ (by decide +kernel)) ggX6_save_X3_keep
set_option maxRecDepth 20000 in
theorem ggX6_save_X4_hours : GoodIn wsX6_save wsX4_hours := goodIn_r _ [67, 29, 75, 76, 77, 78, 79, 80, 81, 82, 83, 84, 85, 86] (by decide +kernel) (by decide +kernel)
set_option maxRecDepth 20000 in
theorem gX6_save_X4_hours : GoodIn wsX6_save (wsV RX6 90 RX4 yX4_hours wsX4_hours) := goodIn_app (goodIn_of _ (by decide +kernel)) ggX6_save_X4_hours
theorem dX6_save_0 : decode cX6_save 0 = .ok (.iload_n 1, 1) := by decide +kernel
